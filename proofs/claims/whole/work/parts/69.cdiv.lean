/-! ===== the class' division ===== -/
/-- of the Nats a and b nothing but sizes and contents is written -/
def aG (a l b m : Nat) (σ σ' : St) : Prop := (sK σ' = sK σ ∧ sF σ' = sF σ ∧ sN σ' = sN σ ∧ sJ σ' = sJ σ ∧ sQ σ' = sQ σ) ∧ (sz σ' = sz σ ∧ sc σ' = sc σ ∧ sw σ' = sw σ) ∧
  (∀ f c, ¬ (f = fid 7 1 ∧ (c = a ∨ c = b)) → sI σ' f c = sI σ f c) ∧ ∀ c, c ≠ l → c ≠ m → sA σ' c = sA σ c
theorem aG.rf {a l b m : Nat} {σ : St} : aG a l b m σ σ := ⟨⟨rfl, rfl, rfl, rfl, rfl⟩, ⟨rfl, rfl, rfl⟩, fun _ _ _ => rfl, fun _ _ _ => rfl⟩
theorem aG.tr {a l b m : Nat} {σ σ1 σ2 : St} (h1 : aG a l b m σ σ1) (h2 : aG a l b m σ1 σ2) : aG a l b m σ σ2 := by
  obtain ⟨⟨a1, a2, a3, a4, a5⟩, ⟨a6, a7, a8⟩, a9, a10⟩ := h1
  obtain ⟨⟨b1, b2, b3, b4, b5⟩, ⟨b6, b7, b8⟩, b9, b10⟩ := h2
  exact ⟨⟨b1.trans a1, b2.trans a2, b3.trans a3, b4.trans a4, b5.trans a5⟩, ⟨b6.trans a6, b7.trans a7, b8.trans a8⟩, fun f c h => (b9 f c h).trans (a9 f c h), fun c h h' => (b10 c h h').trans (a10 c h h')⟩
theorem aF.gl {a l b m : Nat} {σ σ' : St} (h : aF a l σ σ') : aG a l b m σ σ' := ⟨h.1, h.2.1, fun f c q => h.2.2.1 f c (fun q' => q ⟨q'.1, Or.inl q'.2⟩), fun c q _ => h.2.2.2 c q⟩
theorem aF.gr {a l b m : Nat} {σ σ' : St} (h : aF b m σ σ') : aG a l b m σ σ' := ⟨h.1, h.2.1, fun f c q => h.2.2.1 f c (fun q' => q ⟨q'.1, Or.inr q'.2⟩), fun c _ q => h.2.2.2 c q⟩
theorem NA.ag {a l b m c lc nc : Nat} {σ σ' : St} (h : NA σ c lc nc) (hR : aG a l b m σ σ') : NA σ' c lc nc := by
  obtain ⟨⟨a1, a2, a3, a4, a5⟩, _⟩ := hR
  unfold NA
  rw [a1, a2, a3]
  exact h
theorem Nv.ag {a l b m c lc nc w x : Nat} {σ σ' : St} (h : Nv σ c lc nc w x) (hR : aG a l b m σ σ') (h1 : c ≠ a) (h2 : c ≠ b) (h3 : lc ≠ l) (h4 : lc ≠ m) : Nv σ' c lc nc w x := by
  refine ⟨h.1.ag hR, ⟨?_, fun k hk => ?_, h.2.1.2.2⟩, h.2.2⟩
  · rw [hR.2.2.1 _ _ (fun q => by rcases q.2 with q | q <;> omega)]
    exact h.2.1.1
  · rw [hR.2.2.2 _ h3 h4]
    exact h.2.1.2.1 k hk
theorem Own.ne {σ : St} {a b l n m k : Nat} (h : Own σ) (hA : NA σ a l n) (hB : NA σ b m k) (hne : b ≠ a) : m ≠ l := by
  intro e
  refine hne ((h.2 a hA.1).2 b hB.1 ?_)
  show sF σ (fid 7 0) b = sF σ (fid 7 0) a
  rw [hB.2.1, hA.2.1, e]
theorem cF.nat2 {P : List Nat} {a b l n w x m k v y ya yb : Nat} {σ σ' : St} (hp : HP P σ) (hA : NA σ a l n) (hB : NA σ b m k) (hR : aG a l b m σ σ') (hV : Nv σ' a l n w x) (hW : Nv σ' b m k v y) : cF P [a, b] 0 0 σ σ' := by
  obtain ⟨ho, hP⟩ := hp
  obtain ⟨⟨a1, a2, a3, a4, a5⟩, ⟨a6, a7, a8⟩, a9, a10⟩ := id hR
  have hla : lb σ a = l := hA.2.1
  have hlb : lb σ b = m := hB.2.1
  have ho' : Own σ' := by
    refine ⟨⟨by rw [a1]; exact ho.1.1, fun b hb => by rw [a1]; exact ho.1.2 b (by omega)⟩, fun b hb => ?_⟩
    show sK σ' (sF σ' (fid 7 0) b) = 100 ∧ ∀ q, sK σ' q = 8 → sF σ' (fid 7 0) q = sF σ' (fid 7 0) b → q = b
    rw [a1] at hb
    rw [a1, a2]
    exact ho.2 b hb
  have hPot : Pot P σ' = Pot P σ := Pot_same fun b _ => by
    show sN σ' (sF σ' (fid 7 0) b) = _
    rw [a2, a3]
  refine ⟨⟨⟨ho, hP⟩, ho', fun c hc => ?_⟩, ⟨by omega, fun b _ => ⟨by rw [a1], by rw [a3], fun f _ => by rw [a2]⟩⟩, fun c hc q1 q2 => ?_, fun b hb => Or.inl ⟨ho.lt (by rw [← a1, hb]; omega), by show sF σ' _ b = _; rw [a2]⟩, by omega, by omega⟩
  · by_cases e : c = a
    · exact ⟨x, by rw [e]; exact ⟨l, n, w, hV⟩⟩
    · by_cases e2 : c = b
      · exact ⟨y, by rw [e2]; exact ⟨m, k, v, hW⟩⟩
      · obtain ⟨z, lc, nc, wc, hz⟩ := hP c hc
        exact ⟨z, lc, nc, wc, hz.ag hR e e2 (ho.ne hA hz.1 e) (ho.ne hB hz.1 e2)⟩
  · have hcl : c ≠ l := by
      intro e
      exact q2 a hA.1 (hla.trans e.symm) (by simp)
    have hcm : c ≠ m := by
      intro e
      exact q2 b hB.1 (hlb.trans e.symm) (by simp)
    have hca : c ≠ a := by
      intro e
      exact q1 (by rw [e]; exact ho.nl (by rw [hA.1]; omega)) (by simp [e])
    have hcb : c ≠ b := by
      intro e
      exact q1 (by rw [e]; exact ho.nl (by rw [hB.1]; omega)) (by simp [e])
    exact ⟨fun f => a9 f c (fun q => by rcases q.2 with q | q <;> omega), fun f => by rw [a2], fun j => by rw [a10 c hcl hcm], fun j => by rw [a4], fun j => by rw [a5]⟩
theorem mod_split (R k s : Nat) : R % (1000000000 ^ k * s) = R % 1000000000 ^ k + 1000000000 ^ k * (bq R k % s) := Nat.mod_mul
theorem bq_mod_hi (R k s : Nat) : bq (R % (1000000000 ^ k * s)) k = bq R k % s := by
  rw [mod_split, bq_add_mul]
  have : bq (R % 1000000000 ^ k) k = 0 := bp_lt.mp (Nat.mod_lt _ (bp_pos k))
  rw [this, Nat.zero_add]
theorem bq_mod_lo {R k s j : Nat} (h : j < k) : bq (R % (1000000000 ^ k * s)) j % 1000000000 = bq R j % 1000000000 := by
  have e := Nat.mod_add_div R (1000000000 ^ k)
  rw [mod_split, bq_add_low h]
  conv => rhs; rw [← e]
  rw [bq_add_low h]
theorem cn_div_loop {r into rem sc li lr lsc ni nr nsc n s R L W : Nat} {P : List Nat} {σ0 : St} {c : Nat} (hp : HP P σ0) (hI0 : NA σ0 into li ni) (hR0 : NA σ0 rem lr nr) (hS0 : Nv σ0 sc lsc nsc n s) (hr0 : gF σ0 9 1 r = some sc) (hrk : sK σ0 r = 10) (hir : into ≠ rem) (his : sc ≠ into) (hrs : sc ≠ rem)
    (hn0 : 0 < n) (htop : 500000000 ≤ bq s (n - 1)) (hW : W + n = L + 1) (hW0 : 0 < W) (hWi : W ≤ ni) (hL : L < nr) (hRL : R < 1000000000 ^ L) (hsL : sI σ0 (fid 7 1) rem = nI L) (hc1 : 1 ≤ c) (hc2 : c ≤ 1000000000) :
    ∀ (k f : Nat) (σ : St), k < f → k ≤ W → aG into li rem lr σ0 σ → sI σ (fid 7 1) rem = nI L → (∀ j, j ≤ L → sA σ lr j = nI (bq (R % (1000000000 ^ k * s)) j % 1000000000)) → (∀ j, k ≤ j → j < W → sA σ li j = nI (bq (R / s) j % 1000000000)) →
    Hx (fX5_divide_187 f σ r into rem (nI c) (nI W) (iz ((k : Int) - 1))) (fun σ' _ => cF P [into, rem] 0 0 σ0 σ' ∧ Nt σ' into (R / s) ∧ Nt σ' rem (R % s / c)) := by
  have hs0 : 0 < s := by
    apply Nat.pos_of_ne_zero
    intro e
    rw [e] at htop
    unfold bq at htop
    rw [Nat.zero_div] at htop
    omega
  have hs := hS0.2.1.2.2
  have hsn : 1000000000 ^ (n - 1) ≤ s := bp_ge.mpr (by omega)
  have hRW : R < 1000000000 ^ W * s := by
    refine Nat.lt_of_lt_of_le hRL ?_
    rw [show L = W + (n - 1) by omega, Nat.pow_add]
    exact Nat.mul_le_mul_left _ hsn
  have hi9 := hI0.2.2.2.2
  have hr9 := hR0.2.2.2.2
  have hs9 := hS0.1.2.2.2.2
  have hll : lr ≠ li := hp.1.ne hI0 hR0 (fun e => hir e.symm)
  have hls1 : lsc ≠ li := hp.1.ne hI0 hS0.1 his
  have hls2 : lsc ≠ lr := hp.1.ne hR0 hS0.1 hrs
  intro k
  induction k with
  | zero =>
    intro f σ hf _ hG hsz h1 h2
    obtain ⟨f, rfl⟩ : ∃ g, f = g + 1 := ⟨f - 1, by omega⟩
    have hI := hI0.ag hG
    have hN := hR0.ag hG
    have t1 : (iz (-1) < nI 0) = True := by
      rw [xm_lt (by omega) (by omega) (by omega)]
      exact eq_true (by omega)
    rw [n_fX5_divide_187, show ((0 : Nat) : Int) - 1 = -1 from rfl]
    (repeat (first | with_reducible refine hx_bs ?_ | with_reducible refine hx_cs ?_ | with_reducible refine hx_t ?_ | with_reducible refine hx_f ?_ | ((conv => arg 1; arg 1; simp (disch := first | assumption | omega) only [sm_add, sm_mul, sm_le, sm_lt, sm_eq, sm_div, sm_sub, mx_le, mx_lt, mx_eq, xm_le, xm_lt, xm_eq, iz_le, iz_lt, iz_eq, nb0, nb1, Nat.zero_le, not_true_eq_false, not_false_eq_true, Nat.reduceEqDiff, Bool.false_eq_true, gF_wA, gF_wI, gI_wA, aln_wA, aln_wI, ckK_wA, ckK_wI, ldI_wA, stI_wA, pI_wA, om_some, jm_of, jm_to, jm_add, jm_mul, jm_div, jm_cmp, jm_sub, na_gF hI, na_gI hI, na_pI hI, na_aln hI, na_ck hI, na_ld hI, na_st hI, na_gF hN, na_gI hN, na_pI hN, na_aln hN, na_ck hN, na_ld hN, na_st hN, t1]); first | with_reducible refine hx_bs ?_ | with_reducible refine hx_cs ?_ | with_reducible refine hx_t ?_ | with_reducible refine hx_f ?_ | with_reducible refine hx_nm ?_))); (try (conv => arg 1; arg 1; simp (disch := first | assumption | omega) only [sm_add, sm_mul, sm_le, sm_lt, sm_eq, sm_div, sm_sub, mx_le, mx_lt, mx_eq, xm_le, xm_lt, xm_eq, iz_le, iz_lt, iz_eq, nb0, nb1, Nat.zero_le, not_true_eq_false, not_false_eq_true, Nat.reduceEqDiff, Bool.false_eq_true, gF_wA, gF_wI, gI_wA, aln_wA, aln_wI, ckK_wA, ckK_wI, ldI_wA, stI_wA, pI_wA, om_some, jm_of, jm_to, jm_add, jm_mul, jm_div, jm_cmp, jm_sub, na_gF hI, na_gI hI, na_pI hI, na_aln hI, na_ck hI, na_ld hI, na_st hI, na_gF hN, na_gI hN, na_pI hN, na_aln hN, na_ck hN, na_ld hN, na_st hN, t1]))
    rw [n_fX3_trim]
    have hq : R / s < 1000000000 ^ W := by
      rw [Nat.div_lt_iff_lt_mul hs0]
      exact hRW
    refine Hx.bd (cn_trim (x := R / s) FU _ W hI ⟨sI_wI_eq, fun i hi => h2 i (Nat.zero_le _) hi, hq⟩ hWi (by show W < 4294967296; omega)) (fun σ1 _ g1 => ?_)
    obtain ⟨g1, w1, g2⟩ := g1
    have hG1 : aG into li rem lr σ0 σ1 := (hG.tr (aF.wI).gl).tr g1.gl
    have hN1 := hR0.ag hG1
    have hz1 : sI σ1 (fid 7 1) rem = nI L := by
      rw [g1.2.2.1 _ _ (fun q => hir q.2.symm), sI_wI_a (fun q => hir q.symm)]
      exact hsz
    have hd1 : ∀ j, j < L → sA σ1 lr j = nI (bq (R % s) j % 1000000000) := by
      intro j hj
      rw [g1.2.2.2 _ hll, sA_wI_]
      have := h1 j (by omega)
      rw [Nat.pow_zero, Nat.one_mul] at this
      exact this
    (repeat (first | with_reducible refine hx_bs ?_ | with_reducible refine hx_cs ?_ | with_reducible refine hx_t ?_ | with_reducible refine hx_f ?_ | ((conv => arg 1; arg 1; simp (disch := first | assumption | omega) only [sm_add, sm_mul, sm_le, sm_lt, sm_eq, sm_div, sm_sub, mx_le, mx_lt, mx_eq, xm_le, xm_lt, xm_eq, iz_le, iz_lt, iz_eq, nb0, nb1, Nat.zero_le, not_true_eq_false, not_false_eq_true, Nat.reduceEqDiff, Bool.false_eq_true, gF_wA, gF_wI, gI_wA, aln_wA, aln_wI, ckK_wA, ckK_wI, ldI_wA, stI_wA, pI_wA, om_some, jm_of, jm_to, jm_add, jm_mul, jm_div, jm_cmp, jm_sub, na_gF hN1, na_gI hN1, na_pI hN1, na_aln hN1, na_ck hN1, na_ld hN1, na_st hN1]); first | with_reducible refine hx_bs ?_ | with_reducible refine hx_cs ?_ | with_reducible refine hx_t ?_ | with_reducible refine hx_f ?_ | with_reducible refine hx_nm ?_))); (try (conv => arg 1; arg 1; simp (disch := first | assumption | omega) only [sm_add, sm_mul, sm_le, sm_lt, sm_eq, sm_div, sm_sub, mx_le, mx_lt, mx_eq, xm_le, xm_lt, xm_eq, iz_le, iz_lt, iz_eq, nb0, nb1, Nat.zero_le, not_true_eq_false, not_false_eq_true, Nat.reduceEqDiff, Bool.false_eq_true, gF_wA, gF_wI, gI_wA, aln_wA, aln_wI, ckK_wA, ckK_wI, ldI_wA, stI_wA, pI_wA, om_some, jm_of, jm_to, jm_add, jm_mul, jm_div, jm_cmp, jm_sub, na_gF hN1, na_gI hN1, na_pI hN1, na_aln hN1, na_ck hN1, na_ld hN1, na_st hN1]))
    rw [n_fX3_trim]
    have hm : R % s < 1000000000 ^ L := Nat.lt_of_le_of_lt (Nat.mod_le _ _) hRL
    refine Hx.bd (cn_trim (x := R % s) FU _ L hN1 ⟨hz1, hd1, hm⟩ (by omega) (by show L < 4294967296; omega)) (fun σ2 _ g3 => ?_)
    obtain ⟨g3, w2, g4⟩ := g3
    have hG2 : aG into li rem lr σ0 σ2 := hG1.tr g3.gr
    have hI2 : Nv σ2 into li ni w1 (R / s) := g2.af g3 hir (fun q => hll q.symm)
    have hF := cF.nat2 (ya := 0) (yb := 0) hp hI0 hR0 hG2 hI2 g4
    have hN2 := hR0.ag hG2
    (repeat (first | with_reducible refine hx_bs ?_ | with_reducible refine hx_cs ?_ | with_reducible refine hx_t ?_ | with_reducible refine hx_f ?_ | ((conv => arg 1; arg 1; simp (disch := first | assumption | omega) only [sm_add, sm_mul, sm_le, sm_lt, sm_eq, sm_div, sm_sub, mx_le, mx_lt, mx_eq, xm_le, xm_lt, xm_eq, iz_le, iz_lt, iz_eq, nb0, nb1, Nat.zero_le, not_true_eq_false, not_false_eq_true, Nat.reduceEqDiff, Bool.false_eq_true, gF_wA, gF_wI, gI_wA, aln_wA, aln_wI, ckK_wA, ckK_wI, ldI_wA, stI_wA, pI_wA, om_some, jm_of, jm_to, jm_add, jm_mul, jm_div, jm_cmp, jm_sub, na_gF hN2, na_gI hN2, na_pI hN2, na_aln hN2, na_ck hN2, na_ld hN2, na_st hN2]); first | with_reducible refine hx_bs ?_ | with_reducible refine hx_cs ?_ | with_reducible refine hx_t ?_ | with_reducible refine hx_f ?_ | with_reducible refine hx_nm ?_))); (try (conv => arg 1; arg 1; simp (disch := first | assumption | omega) only [sm_add, sm_mul, sm_le, sm_lt, sm_eq, sm_div, sm_sub, mx_le, mx_lt, mx_eq, xm_le, xm_lt, xm_eq, iz_le, iz_lt, iz_eq, nb0, nb1, Nat.zero_le, not_true_eq_false, not_false_eq_true, Nat.reduceEqDiff, Bool.false_eq_true, gF_wA, gF_wI, gI_wA, aln_wA, aln_wI, ckK_wA, ckK_wI, ldI_wA, stI_wA, pI_wA, om_some, jm_of, jm_to, jm_add, jm_mul, jm_div, jm_cmp, jm_sub, na_gF hN2, na_gI hN2, na_pI hN2, na_aln hN2, na_ck hN2, na_ld hN2, na_st hN2]))
    refine Hx.bd (cn_lower (P := P) hF.hp ⟨_, _, _, g4⟩ hc1 hc2) (fun σ3 v g5 => ?_)
    have g6 := g5.1.mo (S' := [into, rem]) (by simp) (Nat.le_refl _) (Nat.le_refl _)
    exact Hx.ret ⟨hF.tr g6, Nt.keep ⟨_, _, _, hI2⟩ g5.1 (by simp; exact hir), g5.2.2⟩
  | succ k ih =>
    intro f σ hf hk hG hsz h1 h2
    obtain ⟨f, rfl⟩ : ∃ g, f = g + 1 := ⟨f - 1, by omega⟩
    have hI := hI0.ag hG
    have hN := hR0.ag hG
    have hS := hS0.ag hG his hrs hls1 hls2
    have hr : gF σ 9 1 r = some sc := by
      obtain ⟨⟨a1, a2, _⟩, _⟩ := hG
      unfold gF
      rw [a1, a2]
      exact hr0
    have hk10 : ckK σ 10 r = some () := sm_ckK (by rw [hG.1.1]; exact hrk)
    have e1 : iz (((k + 1 : Nat) : Int) - 1) = nI k := by
      rw [sm_iz]
      congr 1
      omega
    have eP : 1000000000 ^ (k + 1) * s = 1000000000 ^ k * (s * 1000000000) := by
      rw [Nat.pow_succ, Nat.mul_assoc, Nat.mul_comm 1000000000 s]
    have hV : bq (R % (1000000000 ^ (k + 1) * s)) k = bq R k % (s * 1000000000) := by
      rw [eP, bq_mod_hi]
    have hVl : bq R k % (s * 1000000000) < s * 1000000000 := Nat.mod_lt _ (Nat.mul_pos hs0 (by omega))
    have hdig : ∀ j, j ≤ n → sA σ lr (k + j) = nI (bq (bq R k % (s * 1000000000)) j % 1000000000) := by
      intro j hj
      rw [h1 (k + j) (by omega), bq_dq, hV]
    rw [n_fX5_divide_187, e1]
    (repeat (first | with_reducible refine hx_bs ?_ | with_reducible refine hx_cs ?_ | with_reducible refine hx_t ?_ | with_reducible refine hx_f ?_ | ((conv => arg 1; arg 1; simp (disch := first | assumption | omega) only [sm_add, sm_mul, sm_le, sm_lt, sm_eq, sm_div, sm_sub, mx_le, mx_lt, mx_eq, xm_le, xm_lt, xm_eq, iz_le, iz_lt, iz_eq, nb0, nb1, Nat.zero_le, not_true_eq_false, not_false_eq_true, Nat.reduceEqDiff, Bool.false_eq_true, gF_wA, gF_wI, gI_wA, aln_wA, aln_wI, ckK_wA, ckK_wI, ldI_wA, stI_wA, pI_wA, om_some, jm_of, jm_to, jm_add, jm_mul, jm_div, jm_cmp, jm_sub, na_gF hI, na_gI hI, na_pI hI, na_aln hI, na_ck hI, na_ld hI, na_st hI, na_gF hN, na_gI hN, na_pI hN, na_aln hN, na_ck hN, na_ld hN, na_st hN, show (k < 0) = False from by simp, hk10]); first | with_reducible refine hx_bs ?_ | with_reducible refine hx_cs ?_ | with_reducible refine hx_t ?_ | with_reducible refine hx_f ?_ | with_reducible refine hx_nm ?_))); (try (conv => arg 1; arg 1; simp (disch := first | assumption | omega) only [sm_add, sm_mul, sm_le, sm_lt, sm_eq, sm_div, sm_sub, mx_le, mx_lt, mx_eq, xm_le, xm_lt, xm_eq, iz_le, iz_lt, iz_eq, nb0, nb1, Nat.zero_le, not_true_eq_false, not_false_eq_true, Nat.reduceEqDiff, Bool.false_eq_true, gF_wA, gF_wI, gI_wA, aln_wA, aln_wI, ckK_wA, ckK_wI, ldI_wA, stI_wA, pI_wA, om_some, jm_of, jm_to, jm_add, jm_mul, jm_div, jm_cmp, jm_sub, na_gF hI, na_gI hI, na_pI hI, na_aln hI, na_ck hI, na_ld hI, na_st hI, na_gF hN, na_gI hN, na_pI hN, na_aln hN, na_ck hN, na_ld hN, na_st hN, show (k < 0) = False from by simp, hk10]))
    refine Hx.bd (cn_takeOff hN hS hr hrs hls2 (by omega) hn0 htop hVl hdig) (fun σ1 v g => ?_)
    obtain ⟨g1, rfl, g3⟩ := g
    have hG1 := hG.tr (g1.1.gr (a := into) (l := li))
    have hI1 := hI0.ag hG1
    have hN1 := hR0.ag hG1
    have e3 : nI k + iz (-1) = iz ((k : Int) - 1) := by
      rw [sm_iz, iz_add]
      rfl
    (repeat (first | with_reducible refine hx_bs ?_ | with_reducible refine hx_cs ?_ | with_reducible refine hx_t ?_ | with_reducible refine hx_f ?_ | ((conv => arg 1; arg 1; simp (disch := first | assumption | omega) only [sm_add, sm_mul, sm_le, sm_lt, sm_eq, sm_div, sm_sub, mx_le, mx_lt, mx_eq, xm_le, xm_lt, xm_eq, iz_le, iz_lt, iz_eq, nb0, nb1, Nat.zero_le, not_true_eq_false, not_false_eq_true, Nat.reduceEqDiff, Bool.false_eq_true, gF_wA, gF_wI, gI_wA, aln_wA, aln_wI, ckK_wA, ckK_wI, ldI_wA, stI_wA, pI_wA, om_some, jm_of, jm_to, jm_add, jm_mul, jm_div, jm_cmp, jm_sub, na_gF hI1, na_gI hI1, na_pI hI1, na_aln hI1, na_ck hI1, na_ld hI1, na_st hI1]); first | with_reducible refine hx_bs ?_ | with_reducible refine hx_cs ?_ | with_reducible refine hx_t ?_ | with_reducible refine hx_f ?_ | with_reducible refine hx_nm ?_))); (try (conv => arg 1; arg 1; simp (disch := first | assumption | omega) only [sm_add, sm_mul, sm_le, sm_lt, sm_eq, sm_div, sm_sub, mx_le, mx_lt, mx_eq, xm_le, xm_lt, xm_eq, iz_le, iz_lt, iz_eq, nb0, nb1, Nat.zero_le, not_true_eq_false, not_false_eq_true, Nat.reduceEqDiff, Bool.false_eq_true, gF_wA, gF_wI, gI_wA, aln_wA, aln_wI, ckK_wA, ckK_wI, ldI_wA, stI_wA, pI_wA, om_some, jm_of, jm_to, jm_add, jm_mul, jm_div, jm_cmp, jm_sub, na_gF hI1, na_gI hI1, na_pI hI1, na_aln hI1, na_ck hI1, na_ld hI1, na_st hI1]))
    rw [e3]
    have hmm : R % (1000000000 ^ k * s) = R % (1000000000 ^ (k + 1) * s) % (1000000000 ^ k * s) := by
      rw [eP, ← Nat.mul_assoc, Nat.mod_mul_right_mod]
    refine ih f _ (by omega) (by omega) (hG1.tr (aF.wA).gl) ?_ (fun j hj => ?_) (fun j hj hj2 => ?_)
    · rw [sI_wA_, g1.2.2]
      exact hsz
    · rw [sA_wA_b hll]
      by_cases c1 : j < k
      · rw [g1.2.1 j (Or.inl c1), h1 j hj, hmm, bq_mod_lo c1]
      · by_cases c2 : k + n < j
        · rw [g1.2.1 j (Or.inr c2), h1 j hj]
          have q1 : R % (1000000000 ^ (k + 1) * s) < 1000000000 ^ (k + 1 + n) := by
            rw [Nat.pow_add 1000000000 (k + 1) n]
            exact Nat.lt_of_lt_of_le (Nat.mod_lt _ (Nat.mul_pos (bp_pos _) hs0)) (Nat.mul_le_mul_left _ (Nat.le_of_lt hs))
          have q2 : R % (1000000000 ^ k * s) < 1000000000 ^ (k + 1 + n) := by
            rw [hmm]
            exact Nat.lt_of_le_of_lt (Nat.mod_le _ _) q1
          rw [bq_hi q1 (by omega), bq_hi q2 (by omega)]
        · obtain ⟨i, rfl⟩ : ∃ i, j = k + i := ⟨j - k, by omega⟩
          rw [g3 i (by omega), bq_dq (R % (1000000000 ^ k * s)), bq_mod_hi, Nat.mod_mul_right_mod]
    · by_cases c1 : j = k
      · subst c1
        rw [sA_wA_eq]
        congr 1
        rw [bq_div]
        have := Nat.mod_mul_right_div_self (bq R j) s 1000000000
        rw [this]
      · rw [sA_wA_j c1, g1.1.2.2.2 _ (fun q => hll q.symm)]
        exact h2 j (by omega) hj2
