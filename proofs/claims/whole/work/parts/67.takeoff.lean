/-! ===== the class' division: takeOff ===== -/
theorem xor_neg (x y : Int64) (hy : 0 ≤ y.toInt) : ((x ^^^ y).toInt < 0) = (x.toInt < 0) := by
  have h1 : ∀ z : Int64, z.toBitVec.msb = decide (z.toInt < 0) := fun z => BitVec.msb_eq_toInt
  have h2 : (x ^^^ y).toBitVec.msb = (x.toBitVec.msb ^^ y.toBitVec.msb) := by
    show (x.toBitVec ^^^ y.toBitVec).msb = _
    exact BitVec.msb_xor
  rw [h1, h1, h1, decide_eq_false (show ¬ y.toInt < 0 by omega), Bool.xor_false] at h2
  exact propext (decide_eq_decide.mp h2)
theorem lgc_neg (z : Int64) : (nI 0 ≤ lg_cmp z (nJ 0)) = ¬ (z.toInt < 0) := by
  have h1 := Int64.le_toInt z
  have h2 := Int64.toInt_lt z
  have e : z = jz z.toInt := (Int64.ofInt_toInt z).symm
  have e0 : nJ 0 = jz 0 := rfl
  generalize hz : z.toInt = v at *
  subst e
  rw [e0, jz_cmp (by omega) (by omega) (by omega) (by omega), show nI 0 = iz (0 : Int) from rfl]
  by_cases c1 : 0 < v
  · rw [if_pos c1, iz_le (by omega) (by omega) (by omega) (by omega)]
    exact propext (by omega)
  · rw [if_neg c1]
    by_cases c2 : v = 0
    · rw [if_pos c2, iz_le (by omega) (by omega) (by omega) (by omega)]
      exact propext (by omega)
    · rw [if_neg c2, iz_le (by omega) (by omega) (by omega) (by omega)]
      exact propext (by omega)
theorem lgc_zero (z : Int64) : (lg_cmp z (nJ 0) = nI 0) = (z.toInt = 0) := by
  have h1 := Int64.le_toInt z
  have h2 := Int64.toInt_lt z
  have e : z = jz z.toInt := (Int64.ofInt_toInt z).symm
  have e0 : nJ 0 = jz 0 := rfl
  generalize hz : z.toInt = v at *
  subst e
  rw [e0, jz_cmp (by omega) (by omega) (by omega) (by omega), show nI 0 = iz (0 : Int) from rfl]
  by_cases c1 : 0 < v
  · rw [if_pos c1, iz_eq (by omega) (by omega) (by omega) (by omega)]
    exact propext (by omega)
  · rw [if_neg c1]
    by_cases c2 : v = 0
    · rw [if_pos c2, iz_eq (by omega) (by omega) (by omega) (by omega)]
      exact propext (by omega)
    · rw [if_neg c2, iz_eq (by omega) (by omega) (by omega) (by omega)]
      exact propext (by omega)
theorem cn_floorMod {σ : St} {v : Int} (h1 : -4000000000000000000 ≤ v) (h2 : v < 4000000000000000000) : fJ9_floorMod_f86c9 σ (jz v) (nJ 1000000000) = some (σ, jz (v % 1000000000)) := by
  have hx : (nI 0 ≤ lg_cmp (jz v ^^^ nJ 1000000000) (nJ 0)) = ¬ (v < 0) := by
    rw [lgc_neg, xor_neg _ _ (by rw [jm_jz, jz_toInt (by omega) (by omega)]; omega), jz_toInt (by omega) (by omega)]
  have hm1 : Int64.minValue.toInt = -9223372036854775808 := rfl
  have hm2 : Int64.maxValue.toInt = 9223372036854775807 := rfl
  have hd : jz v / nJ 1000000000 = jz (v.tdiv 1000000000) := by
    rw [jm_jz]
    exact (Int64.ofInt_tdiv (by omega) (by omega) (by omega) (by omega)).symm
  rw [n_fJ9_floorMod_f86c9, ckDL_ok (by omega) (by omega)]
  simp only [sm_bind, sm_nm, hx, hd, lgc_zero]
  rw [show nJ 1000000000 = jz 1000000000 from rfl, jz_mul, jz_sub]
  by_cases c : v < 0
  · obtain ⟨u, hu⟩ : ∃ u : Int, v = -u := ⟨-v, by omega⟩
    have e1 : v.tdiv 1000000000 = -(u / 1000000000) := by
      rw [hu, Int.neg_tdiv, Int.tdiv_eq_ediv_of_nonneg (by omega)]
    rw [e1, jz_toInt (by omega) (by omega), if_neg (fun q => q c)]
    by_cases c2 : v - -(u / 1000000000) * 1000000000 = 0
    · rw [if_pos c2]
      congr 3
      omega
    · rw [if_neg c2, jz_add]
      congr 3
      omega
  · rw [if_pos c, Int.tdiv_eq_ediv_of_nonneg (by omega)]
    congr 3
    omega
theorem jz_exact {k : Int} (h1 : -9000000000 ≤ k) (h2 : k < 9000000000) : jz (k * 1000000000) / nJ 1000000000 = jz k := by
  have hm1 : Int64.minValue.toInt = -9223372036854775808 := rfl
  have hm2 : Int64.maxValue.toInt = 9223372036854775807 := rfl
  rw [jm_jz]
  have := Int64.ofInt_tdiv (a := k * 1000000000) (b := ((1000000000 : Nat) : Int)) (by omega) (by omega) (by omega) (by omega)
  show Int64.ofInt _ / Int64.ofInt _ = _
  rw [← this]
  show Int64.ofInt ((k * 1000000000).tdiv 1000000000) = _
  rw [Int.mul_tdiv_cancel _ (by omega)]
  rfl
theorem sub_e4 (a g : Nat) : ((a : Int) - (g : Int) * 1000000000) % 1000000000 = ((a % 1000000000 : Nat) : Int) := by omega
theorem sub_e5 {a g : Nat} (ha : a < 4000000000000000000) (hg : g ≤ 1000000000) : (jz ((a : Int) - (g : Int) * 1000000000) - jz ((a % 1000000000 : Nat) : Int)) / nJ 1000000000 = jz (((a / 1000000000 : Nat) : Int) - g) := by
  rw [jz_sub, ← jz_exact (k := ((a / 1000000000 : Nat) : Int) - g) (by omega) (by omega)]
  have : (a : Int) - (g : Int) * 1000000000 - ((a % 1000000000 : Nat) : Int) = (((a / 1000000000 : Nat) : Int) - g) * 1000000000 := by omega
  rw [this]
theorem sub_e3 {c v gd ge g : Nat} (h : ge + gd = g * 999999999) : jz ((c : Int) - g) + (nJ v - nJ gd) = jz (((c + (v + ge) : Nat) : Int) - (g : Int) * 1000000000) := by
  have : (c : Int) - g + ((v : Int) - gd) = ((c + (v + ge) : Nat) : Int) - (g : Int) * 1000000000 := by omega
  rw [jm_jz, jm_jz, jz_sub, jz_add, this]
/-- of the row l only the places k .. k + n are written -/
def sg (rm l k n : Nat) (σ σ' : St) : Prop := aF rm l σ σ' ∧ (∀ p, (p < k ∨ k + n < p) → sA σ' l p = sA σ l p) ∧ sI σ' = sI σ
theorem sg.rf {rm l k n : Nat} {σ : St} : sg rm l k n σ σ := ⟨aF.rf, fun _ _ => rfl, rfl⟩
theorem sg.tr {rm l k n : Nat} {σ σ1 σ2 : St} (h1 : sg rm l k n σ σ1) (h2 : sg rm l k n σ1 σ2) : sg rm l k n σ σ2 := ⟨h1.1.tr h2.1, fun p hp => (h2.2.1 p hp).trans (h1.2.1 p hp), h2.2.2.trans h1.2.2⟩
theorem sg.wA {rm l k n j : Nat} {σ : St} {v : Int32} (hj : j ≤ n) : sg rm l k n σ (wA σ l (k + j) v) := ⟨aF.wA, fun p hp => sA_wA_j (by omega), rfl⟩
/-- V less g times s, of the lowest i limbs, with g borrowed ahead -/
def kE (V s g i : Nat) : Nat := V % 1000000000 ^ i + g * (1000000000 ^ i - s % 1000000000 ^ i)
theorem kE_0 (V s g : Nat) : kE V s g 0 = g := by
  unfold kE
  rw [Nat.pow_zero, Nat.mod_one, Nat.mod_one, Nat.zero_add, Nat.sub_zero, Nat.mul_one]
theorem kE_s (V s g i : Nat) : kE V s g (i + 1) = kE V s g i + 1000000000 ^ i * (bq V i % 1000000000 + g * (999999999 - bq s i % 1000000000)) := by
  unfold kE
  rw [mod_bp, mod_bp, Nat.pow_succ]
  have h1 := Nat.mod_lt s (bp_pos i)
  generalize hm : s % 1000000000 ^ i = sm at *
  generalize hp : 1000000000 ^ i = B at *
  have h2 : bq s i % 1000000000 < 1000000000 := Nat.mod_lt _ (by omega)
  generalize bq s i % 1000000000 = d at *
  have e1 : B * 1000000000 - (sm + B * d) = (B - sm) + B * (999999999 - d) := by
    have : B * 1000000000 = B * d + B * (999999999 - d) + B := by
      rw [← Nat.mul_add, show d + (999999999 - d) = 999999999 by omega]
      omega
    omega
  rw [e1, Nat.mul_add g, Nat.mul_add B, Nat.mul_left_comm g B]
  omega
theorem kE_all {V s g n : Nat} (hs : s < 1000000000 ^ n) : kE V s g n + 1000000000 ^ n * bq V n + g * s = V + g * 1000000000 ^ n := by
  unfold kE
  rw [Nat.mod_eq_of_lt hs, Nat.mul_sub]
  have h1 := Nat.mod_add_div V (1000000000 ^ n)
  have h2 : g * s ≤ g * 1000000000 ^ n := Nat.mul_le_mul_left g (Nat.le_of_lt hs)
  show _ + _ + 1000000000 ^ n * (V / 1000000000 ^ n) + _ = _
  omega
theorem cn_sub_loop {r rm sc l lsc nsc len n s k g V : Nat} {Q : St → Int32 → Prop} (hne : sc ≠ rm) (hll : lsc ≠ l) (hkn : k + n < len) (hg : g ≤ 999999999) (hnsc : n ≤ nsc) : ∀ (f : Nat) (σ : St) (i : Nat), NA σ rm l len → Nv σ sc lsc nsc n s → gF σ 9 1 r = some sc → i ≤ n → n - i < f →
    (∀ j, j < i → sA σ l (k + j) = nI (bq (kE V s g i) j % 1000000000)) → (∀ j, i ≤ j → j ≤ n → sA σ l (k + j) = nI (bq V j % 1000000000)) →
    (∀ σ', sg rm l k n σ σ' → (∀ j, j < n → sA σ' l (k + j) = nI (bq (kE V s g n) j % 1000000000)) → sA σ' l (k + n) = nI (bq V n % 1000000000) → Hx (fX5_takeOff_177 FU σ' r l (nI k) (nI n) (nI (k + n)) (nJ g) (iz (((bq V n % 1000000000 : Nat) : Int) + ((bq (kE V s g n) n : Int) - g))) (nI 0)) Q) →
    Hx (fX5_takeOff_94 f σ r l (nI k) (nI n) (nI (k + n)) (nJ g) (jz ((bq (kE V s g i) i : Int) - g)) (nI i)) Q := by
  intro f
  induction f with
  | zero => intro σ i _ _ _ _ h; omega
  | succ f ih =>
    intro σ i hN hS hr hi hf h1 h2 hK
    have hn := hN.2.2.2.2
    have hnS := hS.1.2.2.2.2
    rw [n_fX5_takeOff_94]
    (repeat (first | with_reducible refine hx_bs ?_ | with_reducible refine hx_cs ?_ | with_reducible refine hx_t ?_ | with_reducible refine hx_f ?_ | ((conv => arg 1; arg 1; simp (disch := first | assumption | omega) only [sm_add, sm_mul, sm_le, sm_lt, sm_eq, sm_div, sm_sub, mx_le, mx_lt, mx_eq, xm_le, xm_lt, xm_eq, iz_le, iz_lt, iz_eq, nb0, nb1, Nat.zero_le, not_true_eq_false, not_false_eq_true, Nat.reduceEqDiff, Bool.false_eq_true, gF_wA, gF_wI, gI_wA, aln_wA, aln_wI, ckK_wA, ckK_wI, ldI_wA, stI_wA, pI_wA, om_some, jm_of, jm_to, jm_add, jm_mul, jm_div, jm_cmp, jm_sub, na_gF hN, na_gI hN, na_pI hN, na_aln hN, na_ck hN, na_ld hN, na_st hN]); first | with_reducible refine hx_bs ?_ | with_reducible refine hx_cs ?_ | with_reducible refine hx_t ?_ | with_reducible refine hx_f ?_ | with_reducible refine hx_nm ?_))); (try (conv => arg 1; arg 1; simp (disch := first | assumption | omega) only [sm_add, sm_mul, sm_le, sm_lt, sm_eq, sm_div, sm_sub, mx_le, mx_lt, mx_eq, xm_le, xm_lt, xm_eq, iz_le, iz_lt, iz_eq, nb0, nb1, Nat.zero_le, not_true_eq_false, not_false_eq_true, Nat.reduceEqDiff, Bool.false_eq_true, gF_wA, gF_wI, gI_wA, aln_wA, aln_wI, ckK_wA, ckK_wI, ldI_wA, stI_wA, pI_wA, om_some, jm_of, jm_to, jm_add, jm_mul, jm_div, jm_cmp, jm_sub, na_gF hN, na_gI hN, na_pI hN, na_aln hN, na_ck hN, na_ld hN, na_st hN]))
    refine Hx.cs (fun c => ?_) (fun c => ?_)
    · have e : i = n := by omega
      subst e
      have ht := h2 i (Nat.le_refl _) (Nat.le_refl _)
      (repeat (first | with_reducible refine hx_bs ?_ | with_reducible refine hx_cs ?_ | with_reducible refine hx_t ?_ | with_reducible refine hx_f ?_ | ((conv => arg 1; arg 1; simp (disch := first | assumption | omega) only [sm_add, sm_mul, sm_le, sm_lt, sm_eq, sm_div, sm_sub, mx_le, mx_lt, mx_eq, xm_le, xm_lt, xm_eq, iz_le, iz_lt, iz_eq, nb0, nb1, Nat.zero_le, not_true_eq_false, not_false_eq_true, Nat.reduceEqDiff, Bool.false_eq_true, gF_wA, gF_wI, gI_wA, aln_wA, aln_wI, ckK_wA, ckK_wI, ldI_wA, stI_wA, pI_wA, om_some, jm_of, jm_to, jm_add, jm_mul, jm_div, jm_cmp, jm_sub, na_gF hN, na_gI hN, na_pI hN, na_aln hN, na_ck hN, na_ld hN, na_st hN, ht]); first | with_reducible refine hx_bs ?_ | with_reducible refine hx_cs ?_ | with_reducible refine hx_t ?_ | with_reducible refine hx_f ?_ | with_reducible refine hx_nm ?_))); (try (conv => arg 1; arg 1; simp (disch := first | assumption | omega) only [sm_add, sm_mul, sm_le, sm_lt, sm_eq, sm_div, sm_sub, mx_le, mx_lt, mx_eq, xm_le, xm_lt, xm_eq, iz_le, iz_lt, iz_eq, nb0, nb1, Nat.zero_le, not_true_eq_false, not_false_eq_true, Nat.reduceEqDiff, Bool.false_eq_true, gF_wA, gF_wI, gI_wA, aln_wA, aln_wI, ckK_wA, ckK_wI, ldI_wA, stI_wA, pI_wA, om_some, jm_of, jm_to, jm_add, jm_mul, jm_div, jm_cmp, jm_sub, na_gF hN, na_gI hN, na_pI hN, na_aln hN, na_ck hN, na_ld hN, na_st hN, ht]))
      have e2 : Int64.toInt32 (nJ (bq V i % 1000000000) + jz ((bq (kE V s g i) i : Int) - g)) = iz (((bq V i % 1000000000 : Nat) : Int) + ((bq (kE V s g i) i : Int) - g)) := by
        rw [jm_jz, jz_add, jm_toz]
      rw [e2]
      exact hK σ sg.rf h1 ht
    · have ht := h2 i (Nat.le_refl _) (by omega)
      have hs := hS.2.1.2.1 i (by omega)
      (repeat (first | with_reducible refine hx_bs ?_ | with_reducible refine hx_cs ?_ | with_reducible refine hx_t ?_ | with_reducible refine hx_f ?_ | ((conv => arg 1; arg 1; simp (disch := first | assumption | omega) only [sm_add, sm_mul, sm_le, sm_lt, sm_eq, sm_div, sm_sub, mx_le, mx_lt, mx_eq, xm_le, xm_lt, xm_eq, iz_le, iz_lt, iz_eq, nb0, nb1, Nat.zero_le, not_true_eq_false, not_false_eq_true, Nat.reduceEqDiff, Bool.false_eq_true, gF_wA, gF_wI, gI_wA, aln_wA, aln_wI, ckK_wA, ckK_wI, ldI_wA, stI_wA, pI_wA, om_some, jm_of, jm_to, jm_add, jm_mul, jm_div, jm_cmp, jm_sub, na_gF hN, na_gI hN, na_pI hN, na_aln hN, na_ck hN, na_ld hN, na_st hN, na_gF hS.1, na_gI hS.1, na_pI hS.1, na_aln hS.1, na_ck hS.1, na_ld hS.1, na_st hS.1, hr, ht, hs]); first | with_reducible refine hx_bs ?_ | with_reducible refine hx_cs ?_ | with_reducible refine hx_t ?_ | with_reducible refine hx_f ?_ | with_reducible refine hx_nm ?_))); (try (conv => arg 1; arg 1; simp (disch := first | assumption | omega) only [sm_add, sm_mul, sm_le, sm_lt, sm_eq, sm_div, sm_sub, mx_le, mx_lt, mx_eq, xm_le, xm_lt, xm_eq, iz_le, iz_lt, iz_eq, nb0, nb1, Nat.zero_le, not_true_eq_false, not_false_eq_true, Nat.reduceEqDiff, Bool.false_eq_true, gF_wA, gF_wI, gI_wA, aln_wA, aln_wI, ckK_wA, ckK_wI, ldI_wA, stI_wA, pI_wA, om_some, jm_of, jm_to, jm_add, jm_mul, jm_div, jm_cmp, jm_sub, na_gF hN, na_gI hN, na_pI hN, na_aln hN, na_ck hN, na_ld hN, na_st hN, na_gF hS.1, na_gI hS.1, na_pI hS.1, na_aln hS.1, na_ck hS.1, na_ld hS.1, na_st hS.1, hr, ht, hs]))
      have eK := kE_s V s g i
      have eq1 := bq_add_mul (kE V s g i) (bq V i % 1000000000 + g * (999999999 - bq s i % 1000000000)) i
      rw [← eK] at eq1
      have eq2 := bp_dv (kE V s g (i + 1)) i
      have hlow : ∀ j, j < i → bq (kE V s g (i + 1)) j % 1000000000 = bq (kE V s g i) j % 1000000000 := fun j hj => by rw [eK]; exact bq_add_low hj
      have hds : bq s i % 1000000000 ≤ 999999999 := by omega
      have hprod : g * (999999999 - bq s i % 1000000000) + g * (bq s i % 1000000000) = g * 999999999 := by
        rw [← Nat.mul_add]
        congr 1
        omega
      have hgs : g * (bq s i % 1000000000) ≤ 999999999 * 999999999 := Nat.mul_le_mul hg hds
      have hc : bq (kE V s g i) i ≤ g := by
        have q1 : kE V s g i < 1000000000 ^ i * (g + 1) := by
          unfold kE
          have := Nat.mod_lt V (bp_pos i)
          have q2 : g * (1000000000 ^ i - s % 1000000000 ^ i) ≤ g * 1000000000 ^ i := Nat.mul_le_mul_left g (Nat.sub_le _ _)
          rw [Nat.mul_add, Nat.mul_one, Nat.mul_comm _ g]
          omega
        have : bq (kE V s g i) i < g + 1 := Nat.div_lt_of_lt_mul q1
        omega
      generalize hgd : g * (bq s i % 1000000000) = gd at *
      generalize hgd2 : g * (999999999 - bq s i % 1000000000) = ge at *
      generalize hcq : bq (kE V s g i) i = cq at *
      generalize hvq : bq V i % 1000000000 = vq at *
      have hvq2 : vq < 1000000000 := by rw [← hvq]; exact Nat.mod_lt _ (by omega)
      have hge : ge ≤ 999999999 * 999999999 := by omega
      have hsum : cq + (vq + ge) < 4000000000000000000 := by omega
      rw [sub_e3 hprod, cn_floorMod (by omega) (by omega)]
      refine hx_cs ?_
      rw [sub_e4]
      have e5 := sub_e5 (a := cq + (vq + ge)) (g := g) hsum (by omega)
      rw [jm_toz, ← sm_iz]
      (repeat (first | with_reducible refine hx_bs ?_ | with_reducible refine hx_cs ?_ | with_reducible refine hx_t ?_ | with_reducible refine hx_f ?_ | ((conv => arg 1; arg 1; simp (disch := first | assumption | omega) only [sm_add, sm_mul, sm_le, sm_lt, sm_eq, sm_div, sm_sub, mx_le, mx_lt, mx_eq, xm_le, xm_lt, xm_eq, iz_le, iz_lt, iz_eq, nb0, nb1, Nat.zero_le, not_true_eq_false, not_false_eq_true, Nat.reduceEqDiff, Bool.false_eq_true, gF_wA, gF_wI, gI_wA, aln_wA, aln_wI, ckK_wA, ckK_wI, ldI_wA, stI_wA, pI_wA, om_some, jm_of, jm_to, jm_add, jm_mul, jm_div, jm_cmp, jm_sub, na_gF hN, na_gI hN, na_pI hN, na_aln hN, na_ck hN, na_ld hN, na_st hN, e5]); first | with_reducible refine hx_bs ?_ | with_reducible refine hx_cs ?_ | with_reducible refine hx_t ?_ | with_reducible refine hx_f ?_ | with_reducible refine hx_nm ?_))); (try (conv => arg 1; arg 1; simp (disch := first | assumption | omega) only [sm_add, sm_mul, sm_le, sm_lt, sm_eq, sm_div, sm_sub, mx_le, mx_lt, mx_eq, xm_le, xm_lt, xm_eq, iz_le, iz_lt, iz_eq, nb0, nb1, Nat.zero_le, not_true_eq_false, not_false_eq_true, Nat.reduceEqDiff, Bool.false_eq_true, gF_wA, gF_wI, gI_wA, aln_wA, aln_wI, ckK_wA, ckK_wI, ldI_wA, stI_wA, pI_wA, om_some, jm_of, jm_to, jm_add, jm_mul, jm_div, jm_cmp, jm_sub, na_gF hN, na_gI hN, na_pI hN, na_aln hN, na_ck hN, na_ld hN, na_st hN, e5]))
      have e6 : (((cq + (vq + ge)) / 1000000000 : Nat) : Int) - g = (bq (kE V s g (i + 1)) (i + 1) : Int) - g := by rw [eq2, eq1]
      rw [e6]
      refine ih _ (i + 1) hN (hS.af aF.wA hne hll) hr (by omega) (by omega) (fun j hj => ?_) (fun j hj hj2 => ?_) (fun σ' hR hU hT => hK σ' ((sg.wA (by omega)).tr hR) hU hT)
      · by_cases e : j = i
        · subst e
          rw [sA_wA_eq, eq1]
        · rw [sA_wA_j (by omega), hlow j (by omega)]
          exact h1 j (by omega)
      · rw [sA_wA_j (by omega)]
        exact h2 j (by omega) hj2
