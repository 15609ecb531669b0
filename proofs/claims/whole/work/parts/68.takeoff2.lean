/-! ===== the class' division: takeOff, back and whole ===== -/
theorem cn_back_loop {r rm sc l lsc nsc len n s k E : Nat} {x7 : Int64} {x11 x12 : Int32} {Q : St → Int32 → Prop} (K : St → Nat → Nat → Int32 → Int32 → Int32 → Int64 → Int32 → Int32 → Option (St × Int32)) (hne : sc ≠ rm) (hll : lsc ≠ l) (hkn : k + n < len) (hnsc : n ≤ nsc) : ∀ (f : Nat) (σ : St) (i : Nat), NA σ rm l len → Nv σ sc lsc nsc n s → gF σ 9 1 r = some sc → i ≤ n → n - i < f →
    (∀ j, j < i → sA σ l (k + j) = nI (bq (E + s) j % 1000000000)) → (∀ j, i ≤ j → j < n → sA σ l (k + j) = nI (bq E j % 1000000000)) →
    (∀ σ', sg rm l k n σ σ' → sA σ' l (k + n) = sA σ l (k + n) → (∀ j, j < n → sA σ' l (k + j) = nI (bq (E + s) j % 1000000000)) → Hx (K σ' r l (nI k) (nI n) (nI (k + n)) x7 (x11 + nI (bq (E + s) n - bq E n)) (x12 + nI 1)) Q) →
    Hx (fX5_takeOff_200 K f σ r l (nI k) (nI n) (nI (k + n)) x7 x11 x12 (nI (bq (E + s) i - bq E i - bq s i)) (nI i)) Q := by
  intro f
  induction f with
  | zero => intro σ i _ _ _ _ h; omega
  | succ f ih =>
    intro σ i hN hS hr hi hf h1 h2 hK
    have hn := hN.2.2.2.2
    have hnS := hS.1.2.2.2.2
    have q1 := bq_add_le E s i
    have q2 := bq_add_lt E s i
    rw [n_fX5_takeOff_200]
    (repeat (first | with_reducible refine hx_bs ?_ | with_reducible refine hx_cs ?_ | with_reducible refine hx_t ?_ | with_reducible refine hx_f ?_ | ((conv => arg 1; arg 1; simp (disch := first | assumption | omega) only [sm_add, sm_mul, sm_le, sm_lt, sm_eq, sm_div, sm_sub, mx_le, mx_lt, mx_eq, xm_le, xm_lt, xm_eq, iz_le, iz_lt, iz_eq, nb0, nb1, Nat.zero_le, not_true_eq_false, not_false_eq_true, Nat.reduceEqDiff, Bool.false_eq_true, gF_wA, gF_wI, gI_wA, aln_wA, aln_wI, ckK_wA, ckK_wI, ldI_wA, stI_wA, pI_wA, om_some, jm_of, jm_to, jm_add, jm_mul, jm_div, jm_cmp, jm_sub, na_gF hN, na_gI hN, na_pI hN, na_aln hN, na_ck hN, na_ld hN, na_st hN]); first | with_reducible refine hx_bs ?_ | with_reducible refine hx_cs ?_ | with_reducible refine hx_t ?_ | with_reducible refine hx_f ?_ | with_reducible refine hx_nm ?_))); (try (conv => arg 1; arg 1; simp (disch := first | assumption | omega) only [sm_add, sm_mul, sm_le, sm_lt, sm_eq, sm_div, sm_sub, mx_le, mx_lt, mx_eq, xm_le, xm_lt, xm_eq, iz_le, iz_lt, iz_eq, nb0, nb1, Nat.zero_le, not_true_eq_false, not_false_eq_true, Nat.reduceEqDiff, Bool.false_eq_true, gF_wA, gF_wI, gI_wA, aln_wA, aln_wI, ckK_wA, ckK_wI, ldI_wA, stI_wA, pI_wA, om_some, jm_of, jm_to, jm_add, jm_mul, jm_div, jm_cmp, jm_sub, na_gF hN, na_gI hN, na_pI hN, na_aln hN, na_ck hN, na_ld hN, na_st hN]))
    refine Hx.cs (fun c => ?_) (fun c => ?_)
    · have e : i = n := by omega
      subst e
      rw [bq_hi hS.2.1.2.2 (Nat.le_refl _), Nat.sub_zero]
      refine hx_nm (hx_nm ?_)
      exact hK σ sg.rf rfl h1
    · have ht := h2 i (Nat.le_refl _) (by omega)
      have hs := hS.2.1.2.1 i (by omega)
      have d1 := bp_dv E i
      have d2 := bp_dv s i
      have d3 := bp_dv (E + s) i
      have q3 := bq_add_le E s (i + 1)
      have q4 := bq_add_lt E s (i + 1)
      (repeat (first | with_reducible refine hx_bs ?_ | with_reducible refine hx_cs ?_ | with_reducible refine hx_t ?_ | with_reducible refine hx_f ?_ | ((conv => arg 1; arg 1; simp (disch := first | assumption | omega) only [sm_add, sm_mul, sm_le, sm_lt, sm_eq, sm_div, sm_sub, mx_le, mx_lt, mx_eq, xm_le, xm_lt, xm_eq, iz_le, iz_lt, iz_eq, nb0, nb1, Nat.zero_le, not_true_eq_false, not_false_eq_true, Nat.reduceEqDiff, Bool.false_eq_true, gF_wA, gF_wI, gI_wA, aln_wA, aln_wI, ckK_wA, ckK_wI, ldI_wA, stI_wA, pI_wA, om_some, jm_of, jm_to, jm_add, jm_mul, jm_div, jm_cmp, jm_sub, na_gF hN, na_gI hN, na_pI hN, na_aln hN, na_ck hN, na_ld hN, na_st hN, na_gF hS.1, na_gI hS.1, na_pI hS.1, na_aln hS.1, na_ck hS.1, na_ld hS.1, na_st hS.1, hr, ht, hs]); first | with_reducible refine hx_bs ?_ | with_reducible refine hx_cs ?_ | with_reducible refine hx_t ?_ | with_reducible refine hx_f ?_ | with_reducible refine hx_nm ?_))); (try (conv => arg 1; arg 1; simp (disch := first | assumption | omega) only [sm_add, sm_mul, sm_le, sm_lt, sm_eq, sm_div, sm_sub, mx_le, mx_lt, mx_eq, xm_le, xm_lt, xm_eq, iz_le, iz_lt, iz_eq, nb0, nb1, Nat.zero_le, not_true_eq_false, not_false_eq_true, Nat.reduceEqDiff, Bool.false_eq_true, gF_wA, gF_wI, gI_wA, aln_wA, aln_wI, ckK_wA, ckK_wI, ldI_wA, stI_wA, pI_wA, om_some, jm_of, jm_to, jm_add, jm_mul, jm_div, jm_cmp, jm_sub, na_gF hN, na_gI hN, na_pI hN, na_aln hN, na_ck hN, na_ld hN, na_st hN, na_gF hS.1, na_gI hS.1, na_pI hS.1, na_aln hS.1, na_ck hS.1, na_ld hS.1, na_st hS.1, hr, ht, hs]))
      have fin : ∀ c', c' = bq (E + s) (i + 1) - bq E (i + 1) - bq s (i + 1) → ∀ u, u = bq (E + s) i % 1000000000 → Hx (fX5_takeOff_200 K f (wA σ l (k + i) (nI u)) r l (nI k) (nI n) (nI (k + n)) x7 x11 x12 (nI c') (nI (i + 1))) Q := by
        intro c' hc' u hu
        rw [hc', hu]
        refine ih _ (i + 1) hN (hS.af aF.wA hne hll) hr (by omega) (by omega) (fun j hj => ?_) (fun j hj hj2 => ?_) (fun σ' hR hT hU => hK σ' ((sg.wA (by omega)).tr hR) (hT.trans (sA_wA_j (by omega))) hU)
        · by_cases e : j = i
          · subst e
            rw [sA_wA_eq]
          · rw [sA_wA_j (by omega)]
            exact h1 j (by omega)
        · rw [sA_wA_j (by omega)]
          exact h2 j (by omega) hj2
      refine Hx.cs (fun c2 => ?_) (fun c2 => ?_)
      · rw [n_fX5_takeOff_240]
        (repeat (first | with_reducible refine hx_bs ?_ | with_reducible refine hx_cs ?_ | with_reducible refine hx_t ?_ | with_reducible refine hx_f ?_ | ((conv => arg 1; arg 1; simp (disch := first | assumption | omega) only [sm_add, sm_mul, sm_le, sm_lt, sm_eq, sm_div, sm_sub, mx_le, mx_lt, mx_eq, xm_le, xm_lt, xm_eq, iz_le, iz_lt, iz_eq, nb0, nb1, Nat.zero_le, not_true_eq_false, not_false_eq_true, Nat.reduceEqDiff, Bool.false_eq_true, gF_wA, gF_wI, gI_wA, aln_wA, aln_wI, ckK_wA, ckK_wI, ldI_wA, stI_wA, pI_wA, om_some, jm_of, jm_to, jm_add, jm_mul, jm_div, jm_cmp, jm_sub, na_gF hN, na_gI hN, na_pI hN, na_aln hN, na_ck hN, na_ld hN, na_st hN, Nat.zero_mul, Nat.sub_zero]); first | with_reducible refine hx_bs ?_ | with_reducible refine hx_cs ?_ | with_reducible refine hx_t ?_ | with_reducible refine hx_f ?_ | with_reducible refine hx_nm ?_))); (try (conv => arg 1; arg 1; simp (disch := first | assumption | omega) only [sm_add, sm_mul, sm_le, sm_lt, sm_eq, sm_div, sm_sub, mx_le, mx_lt, mx_eq, xm_le, xm_lt, xm_eq, iz_le, iz_lt, iz_eq, nb0, nb1, Nat.zero_le, not_true_eq_false, not_false_eq_true, Nat.reduceEqDiff, Bool.false_eq_true, gF_wA, gF_wI, gI_wA, aln_wA, aln_wI, ckK_wA, ckK_wI, ldI_wA, stI_wA, pI_wA, om_some, jm_of, jm_to, jm_add, jm_mul, jm_div, jm_cmp, jm_sub, na_gF hN, na_gI hN, na_pI hN, na_aln hN, na_ck hN, na_ld hN, na_st hN, Nat.zero_mul, Nat.sub_zero]))
        exact fin 0 (by omega) _ (by omega)
      · rw [n_fX5_takeOff_240]
        (repeat (first | with_reducible refine hx_bs ?_ | with_reducible refine hx_cs ?_ | with_reducible refine hx_t ?_ | with_reducible refine hx_f ?_ | ((conv => arg 1; arg 1; simp (disch := first | assumption | omega) only [sm_add, sm_mul, sm_le, sm_lt, sm_eq, sm_div, sm_sub, mx_le, mx_lt, mx_eq, xm_le, xm_lt, xm_eq, iz_le, iz_lt, iz_eq, nb0, nb1, Nat.zero_le, not_true_eq_false, not_false_eq_true, Nat.reduceEqDiff, Bool.false_eq_true, gF_wA, gF_wI, gI_wA, aln_wA, aln_wI, ckK_wA, ckK_wI, ldI_wA, stI_wA, pI_wA, om_some, jm_of, jm_to, jm_add, jm_mul, jm_div, jm_cmp, jm_sub, na_gF hN, na_gI hN, na_pI hN, na_aln hN, na_ck hN, na_ld hN, na_st hN, Nat.one_mul]); first | with_reducible refine hx_bs ?_ | with_reducible refine hx_cs ?_ | with_reducible refine hx_t ?_ | with_reducible refine hx_f ?_ | with_reducible refine hx_nm ?_))); (try (conv => arg 1; arg 1; simp (disch := first | assumption | omega) only [sm_add, sm_mul, sm_le, sm_lt, sm_eq, sm_div, sm_sub, mx_le, mx_lt, mx_eq, xm_le, xm_lt, xm_eq, iz_le, iz_lt, iz_eq, nb0, nb1, Nat.zero_le, not_true_eq_false, not_false_eq_true, Nat.reduceEqDiff, Bool.false_eq_true, gF_wA, gF_wI, gI_wA, aln_wA, aln_wI, ckK_wA, ckK_wI, ldI_wA, stI_wA, pI_wA, om_some, jm_of, jm_to, jm_add, jm_mul, jm_div, jm_cmp, jm_sub, na_gF hN, na_gI hN, na_pI hN, na_aln hN, na_ck hN, na_ld hN, na_st hN, Nat.one_mul]))
        exact fin 1 (by omega) _ (by omega)
theorem bq_add_top (E s n : Nat) : bq E n + (bq (E + s) n - bq E n) = bq (E + s) n := by
  have := bq_mono n (Nat.le_add_right E s)
  omega
theorem kn_end {V s g E n : Nat} (hs : s < 1000000000 ^ n) (hs0 : 0 < s) (hE : E + g * s = V + g * 1000000000 ^ n) (hV : V < (g + 1) * s) (ho : g ≤ bq E n) : g = V / s ∧ bq E n = g ∧ E = g * 1000000000 ^ n + V % s := by
  have h1 : g * 1000000000 ^ n ≤ E := by
    rw [← Nat.le_div_iff_mul_le (bp_pos n)]
    exact ho
  have h2 : g * s ≤ V := by omega
  have e1 : g = V / s := by
    apply Nat.le_antisymm
    · rw [Nat.le_div_iff_mul_le hs0]
      exact h2
    · have : V / s < g + 1 := by
        rw [Nat.div_lt_iff_lt_mul hs0]
        exact hV
      omega
  have e2 := Nat.div_add_mod V s
  rw [← e1, Nat.mul_comm s g] at e2
  have e3 : E = g * 1000000000 ^ n + V % s := by omega
  have hm := Nat.mod_lt V hs0
  refine ⟨e1, ?_, e3⟩
  rw [e3]
  unfold bq
  rw [Nat.mul_comm, Nat.mul_add_div (bp_pos n), Nat.div_eq_of_lt (by omega)]
  rfl
theorem cn_fix_loop {r rm sc l lsc nsc len n s k V : Nat} (hne : sc ≠ rm) (hll : lsc ≠ l) (hkn : k + n < len) (hnsc : n ≤ nsc) (hs0 : 0 < s) (hs : s < 1000000000 ^ n) : ∀ (f : Nat) (σ : St) (t g E : Nat), NA σ rm l len → Nv σ sc lsc nsc n s → gF σ 9 1 r = some sc → 5 - t ≤ f → t ≤ 4 → g + t ≤ V / s + 2 → g ≤ 999999999 → V < (g + 1) * s → E + g * s = V + g * 1000000000 ^ n → bq E n ≤ g →
    (∀ j, j < n → sA σ l (k + j) = nI (bq E j % 1000000000)) →
    Hx (fX5_takeOff_177 f σ r l (nI k) (nI n) (nI (k + n)) (nJ g) (iz ((bq E n : Int) - g)) (nI t)) (fun σ' v => sg rm l k n σ σ' ∧ v = nI (V / s) ∧ ∀ j, j ≤ n → sA σ' l (k + j) = nI (bq (V % s) j % 1000000000)) := by
  intro f
  induction f with
  | zero => intro σ t g E _ _ _ h; omega
  | succ f ih =>
    intro σ t g E hN hS hr hf ht hgt hg hV hE hEg hd
    have hn := hN.2.2.2.2
    have hm := Nat.mod_lt V hs0
    have fin : g ≤ bq E n → Hx (fX5_takeOff_275 σ l (nI (k + n)) (nJ g) (iz ((bq E n : Int) - g))) (fun σ' v => sg rm l k n σ σ' ∧ v = nI (V / s) ∧ ∀ j, j ≤ n → sA σ' l (k + j) = nI (bq (V % s) j % 1000000000)) := by
      intro ho
      obtain ⟨e1, e2, e3⟩ := kn_end hs hs0 hE hV ho
      rw [n_fX5_takeOff_275, e2, show ((g : Nat) : Int) - (g : Int) = ((0 : Nat) : Int) by omega, ← sm_iz]
      (repeat (first | with_reducible refine hx_bs ?_ | with_reducible refine hx_cs ?_ | with_reducible refine hx_t ?_ | with_reducible refine hx_f ?_ | ((conv => arg 1; arg 1; simp (disch := first | assumption | omega) only [sm_add, sm_mul, sm_le, sm_lt, sm_eq, sm_div, sm_sub, mx_le, mx_lt, mx_eq, xm_le, xm_lt, xm_eq, iz_le, iz_lt, iz_eq, nb0, nb1, Nat.zero_le, not_true_eq_false, not_false_eq_true, Nat.reduceEqDiff, Bool.false_eq_true, gF_wA, gF_wI, gI_wA, aln_wA, aln_wI, ckK_wA, ckK_wI, ldI_wA, stI_wA, pI_wA, om_some, jm_of, jm_to, jm_add, jm_mul, jm_div, jm_cmp, jm_sub, na_gF hN, na_gI hN, na_pI hN, na_aln hN, na_ck hN, na_ld hN, na_st hN]); first | with_reducible refine hx_bs ?_ | with_reducible refine hx_cs ?_ | with_reducible refine hx_t ?_ | with_reducible refine hx_f ?_ | with_reducible refine hx_nm ?_))); (try (conv => arg 1; arg 1; simp (disch := first | assumption | omega) only [sm_add, sm_mul, sm_le, sm_lt, sm_eq, sm_div, sm_sub, mx_le, mx_lt, mx_eq, xm_le, xm_lt, xm_eq, iz_le, iz_lt, iz_eq, nb0, nb1, Nat.zero_le, not_true_eq_false, not_false_eq_true, Nat.reduceEqDiff, Bool.false_eq_true, gF_wA, gF_wI, gI_wA, aln_wA, aln_wI, ckK_wA, ckK_wI, ldI_wA, stI_wA, pI_wA, om_some, jm_of, jm_to, jm_add, jm_mul, jm_div, jm_cmp, jm_sub, na_gF hN, na_gI hN, na_pI hN, na_aln hN, na_ck hN, na_ld hN, na_st hN]))
      refine Hx.ret ⟨sg.wA (Nat.le_refl _), e1 ▸ rfl, fun j hj => ?_⟩
      by_cases e : j = n
      · subst e
        rw [sA_wA_eq, bq_hi (show V % s < _ by omega) (Nat.le_refl _)]
      · rw [sA_wA_j (by omega), hd j (by omega), e3, Nat.add_comm, Nat.mul_comm g, bq_add_low (by omega)]
    rw [n_fX5_takeOff_177]
    refine Hx.cs (fun c => ?_) (fun c => ?_)
    · rw [sm_le (by omega) (by omega)] at c
      refine fin ?_
      apply Nat.le_of_not_lt
      intro q
      have h1 : E < g * 1000000000 ^ n := by
        rw [← Nat.div_lt_iff_lt_mul (bp_pos n)]
        exact q
      have h2 : V < g * s := by omega
      have h3 : V / s < g := by
        rw [Nat.div_lt_iff_lt_mul hs0]
        exact h2
      omega
    · rw [sm_le (by omega) (by omega)] at c
      refine Hx.cs (fun c2 => ?_) (fun c2 => ?_)
      · rw [show nI 0 = iz (0 : Int) from rfl, iz_le (by omega) (by omega) (by omega) (by omega)] at c2
        exact fin (by omega)
      · rw [show nI 0 = iz (0 : Int) from rfl, iz_le (by omega) (by omega) (by omega) (by omega)] at c2
        have h1 : E < g * 1000000000 ^ n := by
          rw [← Nat.div_lt_iff_lt_mul (bp_pos n)]
          show bq E n < g
          omega
        have h2 : V < g * s := by omega
        have h3 : V / s < g := by
          rw [Nat.div_lt_iff_lt_mul hs0]
          exact h2
        obtain ⟨g', rfl⟩ : ∃ g', g = g' + 1 := ⟨g - 1, by omega⟩
        rw [Nat.add_mul, Nat.add_mul, Nat.one_mul, Nat.one_mul] at hE
        have hE2 : E + s + g' * s = V + g' * 1000000000 ^ n + 1000000000 ^ n := by omega
        refine hx_nm ?_
        rw [jm_sub (by omega), Nat.add_sub_cancel]
        have := cn_back_loop (x7 := nJ g') (x11 := iz ((bq E n : Int) - (g' + 1 : Nat))) (x12 := nI t) (E := E) (Q := fun σ' v => sg rm l k n σ σ' ∧ v = nI (V / s) ∧ ∀ j, j ≤ n → sA σ' l (k + j) = nI (bq (V % s) j % 1000000000)) (fX5_takeOff_177 f) hne hll hkn hnsc FU σ 0 hN hS hr (Nat.zero_le _) (by show n - 0 < 4294967296; omega) (fun j hj => absurd hj (Nat.not_lt_zero _)) (fun j _ hj => hd j hj)
          (fun σ' hR hT hU => ?_)
        · rw [bq_0, bq_0, bq_0, Nat.add_sub_cancel_left, Nat.sub_self] at this
          exact this
        · have hX : 1000000000 ^ n ≤ E + s := by
            apply Nat.le_of_not_lt
            intro q
            have : E + s + g' * s < 1000000000 ^ n + g' * 1000000000 ^ n := Nat.add_lt_add_of_lt_of_le q (Nat.mul_le_mul_left g' (Nat.le_of_lt hs))
            omega
          -- one borrowed less
          have eb : bq (E + s) n = bq (E + s - 1000000000 ^ n) n + 1 := by
            have := bq_add_mul (E + s - 1000000000 ^ n) 1 n
            rw [Nat.mul_one, Nat.sub_add_cancel hX] at this
            exact this
          have el : ∀ j, j < n → bq (E + s) j % 1000000000 = bq (E + s - 1000000000 ^ n) j % 1000000000 := by
            intro j hj
            have := @bq_add_low (E + s - 1000000000 ^ n) 1 n j hj
            rw [Nat.mul_one, Nat.sub_add_cancel hX] at this
            exact this
          have etop := bq_add_top E s n
          have eo : iz ((bq E n : Int) - (g' + 1 : Nat)) + nI (bq (E + s) n - bq E n) = iz ((bq (E + s - 1000000000 ^ n) n : Int) - g') := by
            rw [sm_iz, iz_add]
            congr 1
            omega
          rw [eo, sm_add]
          have hlt : bq (E + s - 1000000000 ^ n) n ≤ g' := by
            rw [Nat.add_mul, Nat.one_mul] at h1
            have q1 : E + s < (g' + 2) * 1000000000 ^ n := by
              have : E + s < g' * 1000000000 ^ n + 1000000000 ^ n + 1000000000 ^ n := by omega
              rw [Nat.add_mul]
              omega
            have q2 : bq (E + s) n < g' + 2 := by
              unfold bq
              rw [Nat.div_lt_iff_lt_mul (bp_pos n)]
              exact q1
            omega
          refine Hx.mo (ih σ' (t + 1) g' (E + s - 1000000000 ^ n) (hN.af hR.1) (hS.af hR.1 hne hll) ?_ (by omega) (by omega) (by omega) (by omega) (by omega) (by omega) hlt (fun j hj => by rw [hU j hj, el j hj])) (fun σ2 v h => ⟨hR.tr h.1, h.2⟩)
          obtain ⟨⟨a1, a2, _⟩, _⟩ := hR.1
          unfold gF
          rw [a1, a2]
          exact hr
theorem kn_two {V s T P g q B : Nat} (hT : s < (T + 1) * P) (hB : B ≤ 2 * T) (hgB : g < B) (h : g * T * P ≤ V) (hq : V < (q + 1) * s) (hqg : q ≤ g) : g ≤ q + 2 := by
  apply Nat.le_of_not_lt
  intro hh
  obtain ⟨e, rfl⟩ : ∃ e, g = q + 3 + e := ⟨g - (q + 3), by omega⟩
  have h1 : (q + 1) * s ≤ (q + 1) * ((T + 1) * P) := Nat.mul_le_mul_left _ (Nat.le_of_lt hT)
  have h2 : (q + 1) * (T + 1) ≤ (q + 3 + e) * T := by
    have e1 : (q + 3 + e) * T = (q + 1) * T + (2 + e) * T := by
      rw [← Nat.add_mul]
      congr 1
      omega
    have e2 : (q + 1) * (T + 1) = (q + 1) * T + (q + 1) := by rw [Nat.mul_add, Nat.mul_one]
    have e3 : 2 * T ≤ (2 + e) * T := Nat.mul_le_mul_right T (by omega)
    omega
  have h3 : (q + 1) * (T + 1) * P ≤ (q + 3 + e) * T * P := Nat.mul_le_mul_right P h2
  rw [Nat.mul_assoc] at h3
  omega
theorem bq_split (V n : Nat) : bq V n = bq V (n + 1) * 1000000000 + bq V n % 1000000000 := by
  rw [bp_dv, Nat.mul_comm]
  exact (Nat.div_add_mod _ _).symm
theorem cn_takeOff {σ : St} {r rm sc l lsc nsc len n s k V : Nat} (hN : NA σ rm l len) (hS : Nv σ sc lsc nsc n s) (hr : gF σ 9 1 r = some sc) (hne : sc ≠ rm) (hll : lsc ≠ l) (hkn : k + n < len) (hn0 : 0 < n) (htop : 500000000 ≤ bq s (n - 1)) (hV : V < s * 1000000000) (hd : ∀ j, j ≤ n → sA σ l (k + j) = nI (bq V j % 1000000000)) :
    Hx (fX5_takeOff σ r l (nI k)) (fun σ' v => sg rm l k n σ σ' ∧ v = nI (V / s) ∧ ∀ j, j ≤ n → sA σ' l (k + j) = nI (bq (V % s) j % 1000000000)) := by
  have hn := hN.2.2.2.2
  have hnS := hS.1.2.2.2.2
  have hnsc := hS.2.2.1
  have hs := hS.2.1.2.2
  have hs0 : 0 < s := by
    apply Nat.pos_of_ne_zero
    intro e
    rw [e] at htop
    unfold bq at htop
    rw [Nat.zero_div] at htop
    omega
  obtain ⟨m, rfl⟩ : ∃ m, n = m + 1 := ⟨n - 1, by omega⟩
  rw [Nat.add_sub_cancel] at htop
  have hT2 := hS.top
  have hVn : V < 1000000000 ^ (m + 1 + 1) := by
    rw [Nat.pow_succ]
    exact Nat.lt_of_lt_of_le hV (Nat.mul_le_mul_right _ (Nat.le_of_lt hs))
  have hV2 : bq V (m + 1) < 1000000000 := by
    have := bp_lt.mp hVn
    rw [bp_dv] at this
    omega
  have dt := hS.2.1.2.1 m (by omega)
  rw [Nat.mod_eq_of_lt hT2.2] at dt
  have d1 := hd (m + 1) (Nat.le_refl _)
  rw [Nat.mod_eq_of_lt hV2] at d1
  have d2 := hd m (by omega)
  have e0 : k + (m + 1) - 1 = k + m := by omega
  have hsp := bq_split V m
  rw [n_fX5_takeOff]
  (repeat (first | with_reducible refine hx_bs ?_ | with_reducible refine hx_cs ?_ | with_reducible refine hx_t ?_ | with_reducible refine hx_f ?_ | ((conv => arg 1; arg 1; simp (disch := first | assumption | omega) only [sm_add, sm_mul, sm_le, sm_lt, sm_eq, sm_div, sm_sub, mx_le, mx_lt, mx_eq, xm_le, xm_lt, xm_eq, iz_le, iz_lt, iz_eq, nb0, nb1, Nat.zero_le, not_true_eq_false, not_false_eq_true, Nat.reduceEqDiff, Bool.false_eq_true, gF_wA, gF_wI, gI_wA, aln_wA, aln_wI, ckK_wA, ckK_wI, ldI_wA, stI_wA, pI_wA, om_some, jm_of, jm_to, jm_add, jm_mul, jm_div, jm_cmp, jm_sub, na_gF hS.1, na_gI hS.1, na_pI hS.1, na_aln hS.1, na_ck hS.1, na_ld hS.1, na_st hS.1, na_gF hN, na_gI hN, na_pI hN, na_aln hN, na_ck hN, na_ld hN, na_st hN, hr, hS.2.1.1, show (m + 1 < 1) = False from by simp, show (k < 0) = False from by simp, eq_false (show ¬ len ≤ k + (m + 1) by omega), Nat.add_sub_cancel, dt, eq_true (show 1 ≤ bq s m by omega), d1, e0, d2]); first | with_reducible refine hx_bs ?_ | with_reducible refine hx_cs ?_ | with_reducible refine hx_t ?_ | with_reducible refine hx_f ?_ | with_reducible refine hx_nm ?_))); (try (conv => arg 1; arg 1; simp (disch := first | assumption | omega) only [sm_add, sm_mul, sm_le, sm_lt, sm_eq, sm_div, sm_sub, mx_le, mx_lt, mx_eq, xm_le, xm_lt, xm_eq, iz_le, iz_lt, iz_eq, nb0, nb1, Nat.zero_le, not_true_eq_false, not_false_eq_true, Nat.reduceEqDiff, Bool.false_eq_true, gF_wA, gF_wI, gI_wA, aln_wA, aln_wI, ckK_wA, ckK_wI, ldI_wA, stI_wA, pI_wA, om_some, jm_of, jm_to, jm_add, jm_mul, jm_div, jm_cmp, jm_sub, na_gF hS.1, na_gI hS.1, na_pI hS.1, na_aln hS.1, na_ck hS.1, na_ld hS.1, na_st hS.1, na_gF hN, na_gI hN, na_pI hN, na_aln hN, na_ck hN, na_ld hN, na_st hN, hr, hS.2.1.1, show (m + 1 < 1) = False from by simp, show (k < 0) = False from by simp, eq_false (show ¬ len ≤ k + (m + 1) by omega), Nat.add_sub_cancel, dt, eq_true (show 1 ≤ bq s m by omega), d1, e0, d2]))
  generalize hT9 : bq s m = T at *
  have hg0 : (bq V (m + 1) * 1000000000 + bq V m % 1000000000) / T = bq V m / T := by rw [← hsp]
  rw [ckDL_ok (by omega) (by omega)]
  refine hx_bs (hx_nm ?_)
  rw [jm_of (show T < 2147483648 by omega), jm_div (by omega) (by omega) (by omega), hg0]
  have hq9 := Nat.div_le_self (bq V m) T
  have eg : (if nJ 999999999 < nJ (bq V m / T) then nJ 999999999 else nJ (bq V m / T)) = nJ (if 999999999 < bq V m / T then 999999999 else bq V m / T) := by
    by_cases c : 999999999 < bq V m / T
    · rw [if_pos c, if_pos (by rw [jm_lt (by omega) (by omega)]; exact c)]
    · rw [if_neg c, if_neg (by rw [jm_lt (by omega) (by omega)]; exact c)]
  rw [eg]
  have hTP : T * 1000000000 ^ m ≤ s := by
    rw [← hT9]
    exact Nat.div_mul_le_self s _
  have hTP2 : s < (T + 1) * 1000000000 ^ m := by
    rw [← hT9, Nat.add_mul, Nat.one_mul]
    exact Nat.lt_div_mul_add (bp_pos m)
  have hqB : V / s ≤ 999999999 := by
    have : V / s < 1000000000 := by
      rw [Nat.div_lt_iff_lt_mul hs0, Nat.mul_comm]
      exact hV
    omega
  have hqe : V / s ≤ bq V m / T := kn_ge (bp_pos m) hTP hs0 (by omega)
  have hgT : ∀ g, g ≤ bq V m / T → g * T * 1000000000 ^ m ≤ V := by
    intro g hg
    rw [Nat.le_div_iff_mul_le (by omega)] at hg
    exact Nat.le_trans (Nat.mul_le_mul_right _ hg) (Nat.div_mul_le_self V _)
  generalize hgv : (if 999999999 < bq V m / T then 999999999 else bq V m / T) = g
  have hg1 : g ≤ 999999999 := by rw [← hgv]; split <;> omega
  have hg2 : V / s ≤ g := by rw [← hgv]; split <;> omega
  have hg3 : g ≤ bq V m / T := by rw [← hgv]; split <;> omega
  have hVq : V < (V / s + 1) * s := by
    rw [Nat.add_mul, Nat.one_mul]
    exact Nat.lt_div_mul_add hs0
  have hg4 : g ≤ V / s + 2 := kn_two hTP2 (show 1000000000 ≤ 2 * T by omega) (by omega) (hgT g hg3) hVq hg2
  have hVg : V < (g + 1) * s := Nat.lt_of_lt_of_le hVq (Nat.mul_le_mul_right s (by omega))
  have := cn_sub_loop (V := V) (g := g) (Q := fun σ' v => sg rm l k (m + 1) σ σ' ∧ v = nI (V / s) ∧ ∀ j, j ≤ m + 1 → sA σ' l (k + j) = nI (bq (V % s) j % 1000000000)) hne hll hkn hg1 hnsc FU σ 0 hN hS hr (Nat.zero_le _) (by show m + 1 - 0 < 4294967296; omega) (fun j hj => absurd hj (Nat.not_lt_zero _)) (fun j _ hj => hd j hj) (fun σ' hR hU hT => ?_)
  · rw [kE_0, bq_0, show ((g : Nat) : Int) - (g : Int) = ((0 : Nat) : Int) by omega, ← jm_jz] at this
    exact this
  · have hall := kE_all (V := V) (g := g) hs
    have ebq : bq (kE V s g (m + 1) + 1000000000 ^ (m + 1) * bq V (m + 1)) (m + 1) = bq (kE V s g (m + 1)) (m + 1) + bq V (m + 1) := bq_add_mul _ _ _
    have ei : ((bq V (m + 1) % 1000000000 : Nat) : Int) + ((bq (kE V s g (m + 1)) (m + 1) : Int) - g) = (bq (kE V s g (m + 1) + 1000000000 ^ (m + 1) * bq V (m + 1)) (m + 1) : Int) - g := by
      rw [ebq, Nat.mod_eq_of_lt hV2]
      omega
    rw [ei]
    have hEg : bq (kE V s g (m + 1) + 1000000000 ^ (m + 1) * bq V (m + 1)) (m + 1) ≤ g := by
      generalize hEE : kE V s g (m + 1) + 1000000000 ^ (m + 1) * bq V (m + 1) = E at *
      have q1 : E < (g + 1) * 1000000000 ^ (m + 1) := by
        have e1 : (g + 1) * s = g * s + s := by rw [Nat.add_mul, Nat.one_mul]
        have e2 : (g + 1) * 1000000000 ^ (m + 1) = g * 1000000000 ^ (m + 1) + 1000000000 ^ (m + 1) := by rw [Nat.add_mul, Nat.one_mul]
        omega
      have : bq E (m + 1) < g + 1 := by
        unfold bq
        rw [Nat.div_lt_iff_lt_mul (bp_pos _)]
        exact q1
      omega
    refine Hx.mo (cn_fix_loop hne hll hkn hnsc hs0 hs FU σ' 0 g _ (hN.af hR.1) (hS.af hR.1 hne hll) ?_ (by show 5 - 0 ≤ 4294967296; omega) (by omega) (by omega) hg1 hVg hall hEg (fun j hj => by rw [hU j hj, bq_add_low hj])) (fun σ2 v h => ⟨hR.tr h.1, h.2⟩)
    obtain ⟨⟨a1, a2, _⟩, _⟩ := hR.1
    unfold gF
    rw [a1, a2]
    exact hr
