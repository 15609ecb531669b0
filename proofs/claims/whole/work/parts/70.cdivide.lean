/-! ===== the class' division: divide ===== -/
theorem cF.up {P S : List Nat} {a k c : Nat} {σ σ' : St} (h : cF P [a] k c σ σ') (ha : a ∈ S) : cF P S k c σ σ' := h.mo (fun r hr => by rw [List.mem_singleton.mp hr]; exact ha) (Nat.le_refl _) (Nat.le_refl _)
theorem cF.t0 {P S : List Nat} {σ σ1 σ2 : St} (h1 : cF P S 0 0 σ σ1) (h2 : cF P S 0 0 σ1 σ2) : cF P S 0 0 σ σ2 := h1.tr h2
theorem cF.k {P S : List Nat} {k c a κ : Nat} {σ σ' : St} (h : cF P S k c σ σ') (hk : sK σ a = κ) (h0 : κ ≠ 0) : sK σ' a = κ := by
  rw [(h.2.1.2 a (h.1.1.1.lt (by rw [hk]; exact h0))).1]
  exact hk
theorem cF.gf {P S : List Nat} {k c ci j a v : Nat} {σ σ' : St} (h : cF P S k c σ σ') (hm : mutF (fid ci j) = false) (hg : gF σ ci j a = some v) : gF σ' ci j a = some v := by
  unfold gF at hg ⊢
  split at hg
  · rename_i hk
    have := h.2.1.2 a (h.1.1.1.lt (by rw [hk]; omega))
    rw [if_pos (this.1.trans hk), this.2.2 _ hm]
    exact hg
  · cases hg
theorem cn_size0 {P : List Nat} {σ : St} {a y : Nat} (hp : HP P σ) (hA : Nt σ a y) : ∃ σ', pI σ 7 1 a (nI 0) = some σ' ∧ cF P [a] 0 0 σ σ' ∧ Nt σ' a 0 := by
  obtain ⟨l, n, w, hV⟩ := id hA
  have hV' : Nv (wI σ (fid 7 1) a (nI 0)) a l n 0 0 := ⟨hV.1, ⟨sI_wI_eq, fun i hi => absurd hi (Nat.not_lt_zero _), by rw [Nat.pow_zero]; omega⟩, Nat.zero_le _, Or.inl rfl⟩
  exact ⟨_, na_pI hV.1 _, cF.nat hp hA hV.1 aF.wI hV', _, _, _, hV'⟩
theorem Nt.ne0 {σ : St} {a l n w x : Nat} (h : Nv σ a l n w x) : 0 < x ↔ 0 < w := by
  have := h.w0
  omega
theorem scale_top {y t n : Nat} (hy : y < (t + 1) * 1000000000 ^ n) (ht : t * 1000000000 ^ n ≤ y) (h1 : 1 ≤ t) (h2 : t < 1000000000) : 1 ≤ 1000000000 / (t + 1) ∧ y * (1000000000 / (t + 1)) < 1000000000 ^ (n + 1) ∧ 500000000 ≤ bq (y * (1000000000 / (t + 1))) n := by
  have h3 := kn_scale (B := 1000000000) (t := t) (by omega) (by omega) h1 h2
  have h4 : 1 ≤ 1000000000 / (t + 1) := by
    rw [Nat.le_div_iff_mul_le (by omega)]
    omega
  have h5 : (t + 1) * (1000000000 / (t + 1)) ≤ 1000000000 := Nat.mul_div_le _ _
  generalize 1000000000 / (t + 1) = c at *
  refine ⟨h4, ?_, ?_⟩
  · have q1 : y * c < (t + 1) * 1000000000 ^ n * c := Nat.mul_lt_mul_of_pos_right hy h4
    have q2 : (t + 1) * 1000000000 ^ n * c = (t + 1) * c * 1000000000 ^ n := Nat.mul_right_comm _ _ _
    have q3 : (t + 1) * c * 1000000000 ^ n ≤ 1000000000 * 1000000000 ^ n := Nat.mul_le_mul_right _ h5
    rw [Nat.pow_succ, Nat.mul_comm _ 1000000000]
    omega
  · unfold bq
    rw [Nat.le_div_iff_mul_le (bp_pos n)]
    have q1 : t * 1000000000 ^ n * c ≤ y * c := Nat.mul_le_mul_right c ht
    have q2 : t * 1000000000 ^ n * c = c * t * 1000000000 ^ n := by rw [Nat.mul_right_comm, Nat.mul_comm t c]
    have q3 : 500000000 * 1000000000 ^ n ≤ c * t * 1000000000 ^ n := Nat.mul_le_mul_right _ (by omega)
    omega
theorem cn_divE {P : List Nat} {σ : St} {r into rem sc lr nr L R lsc nsc n s zi c : Nat} (hp : HP P σ) (hrk : sK σ r = 10) (hr : gF σ 9 1 r = some sc) (hiP : into ∈ P) (hI : Nt σ into zi) (hi0 : zi = 0) (hR : Nv σ rem lr nr L R) (hS : Nv σ sc lsc nsc n s) (hir : into ≠ rem) (his : sc ≠ into) (hrs : sc ≠ rem)
    (hn0 : 0 < n) (htop : 500000000 ≤ bq s (n - 1)) (hnL : n ≤ L) (hL : L < nr) (hL2 : L ≤ 950) (hc1 : 1 ≤ c) (hc2 : c ≤ 1000000000) : Hx (fX5_divide_138 σ r into rem (nI c) (nI L)) (fun σ' _ => cF P [into, rem] 0 0 σ σ' ∧ Nt σ' into (R / s) ∧ Nt σ' rem (R % s / c)) := by
  subst hi0
  have hr9 := hR.1.2.2.2.2
  have hs9 := hS.1.2.2.2.2
  have hls2 : lsc ≠ lr := hp.1.ne hR.1 hS.1 hrs
  -- the limb above
  have hR1 : Nv (wA σ lr L (nI 0)) rem lr nr L R := ⟨hR.1, ⟨hR.2.1.1, fun i hi => by rw [sA_wA_j (by omega)]; exact hR.2.1.2.1 i hi, hR.2.1.2.2⟩, hR.2.2⟩
  have hF1 := cF.nat hp ⟨_, _, _, hR⟩ hR.1 aF.wA hR1
  have hp1 := hF1.hp
  have hS1 : Nv (wA σ lr L (nI 0)) sc lsc nsc n s := hS.af (aF.wA (a := rem)) hrs hls2
  have hI1 := hI.keep hF1 (by simp; exact hir)
  obtain ⟨li, ni, wi, hIv⟩ := id hI1
  have hi9 := hIv.1.2.2.2.2
  have hd1 : ∀ j, j ≤ L → sA (wA σ lr L (nI 0)) lr j = nI (bq R j % 1000000000) := by
    intro j hj
    rw [sA_wA_if]
    split
    · rename_i e
      rw [e, bq_hi hR.2.1.2.2 (Nat.le_refl _)]
    · exact hR.2.1.2.1 j (by omega)
  have hsn : 1000000000 ^ (n - 1) ≤ s := bp_ge.mpr (by omega)
  have hRm : R % (1000000000 ^ (L - n + 1) * s) = R := by
    apply Nat.mod_eq_of_lt
    refine Nat.lt_of_lt_of_le hR.2.1.2.2 ?_
    have := Nat.mul_le_mul_left (1000000000 ^ (L - n + 1)) hsn
    rw [← Nat.pow_add, show L - n + 1 + (n - 1) = L by omega] at this
    exact this
  have fin : ∀ (τ : St) (li ni : Nat), HP P τ → NA τ into li ni → NA τ rem lr nr → Nv τ sc lsc nsc n s → gF τ 9 1 r = some sc → sK τ r = 10 → L - n + 1 ≤ ni → sI τ (fid 7 1) rem = nI L → (∀ j, j ≤ L → sA τ lr j = nI (bq R j % 1000000000)) → Hx (fX5_divide_181 τ r into rem (nI c) (nI (L - n + 1))) (fun σ' _ => cF P [into, rem] 0 0 τ σ' ∧ Nt σ' into (R / s) ∧ Nt σ' rem (R % s / c)) := by
    intro τ li ni hpt g1 g2 g3 g4 g5 g6 g7 g8
    rw [n_fX5_divide_181]
    have e1 : nI (L - n + 1) - nI 1 = iz (((L - n + 1 : Nat) : Int) - 1) := by
      rw [sm_iz, sm_iz, iz_sub]
      rfl
    refine hx_nm ?_
    rw [e1]
    refine cn_div_loop hpt g1 g2 g3 g4 g5 hir his hrs hn0 htop (by omega) (by omega) g6 hL hR.2.1.2.2 g7 hc1 hc2 (L - n + 1) FU τ (by show L - n + 1 < 4294967296; omega) (Nat.le_refl _) aG.rf g7 (fun j hj => ?_) (fun j h1 h2 => by omega)
    rw [hRm]
    exact g8 j hj
  rw [n_fX5_divide_138]
  have hIv' : NA σ into li ni := hIv.1
  (repeat (first | with_reducible refine hx_bs ?_ | with_reducible refine hx_cs ?_ | with_reducible refine hx_t ?_ | with_reducible refine hx_f ?_ | ((conv => arg 1; arg 1; simp (disch := first | assumption | omega) only [sm_add, sm_mul, sm_le, sm_lt, sm_eq, sm_div, sm_sub, mx_le, mx_lt, mx_eq, xm_le, xm_lt, xm_eq, iz_le, iz_lt, iz_eq, nb0, nb1, Nat.zero_le, not_true_eq_false, not_false_eq_true, Nat.reduceEqDiff, Bool.false_eq_true, gF_wA, gF_wI, gI_wA, aln_wA, aln_wI, ckK_wA, ckK_wI, ldI_wA, stI_wA, pI_wA, om_some, jm_of, jm_to, jm_add, jm_mul, jm_div, jm_cmp, jm_sub, na_gF hR.1, na_gI hR.1, na_pI hR.1, na_aln hR.1, na_ck hR.1, na_ld hR.1, na_st hR.1, na_gF hS.1, na_gI hS.1, na_pI hS.1, na_aln hS.1, na_ck hS.1, na_ld hS.1, na_st hS.1, na_gF hIv', na_gI hIv', na_pI hIv', na_aln hIv', na_ck hIv', na_ld hIv', na_st hIv', hr, hS.2.1.1]); first | with_reducible refine hx_bs ?_ | with_reducible refine hx_cs ?_ | with_reducible refine hx_t ?_ | with_reducible refine hx_f ?_ | with_reducible refine hx_nm ?_))); (try (conv => arg 1; arg 1; simp (disch := first | assumption | omega) only [sm_add, sm_mul, sm_le, sm_lt, sm_eq, sm_div, sm_sub, mx_le, mx_lt, mx_eq, xm_le, xm_lt, xm_eq, iz_le, iz_lt, iz_eq, nb0, nb1, Nat.zero_le, not_true_eq_false, not_false_eq_true, Nat.reduceEqDiff, Bool.false_eq_true, gF_wA, gF_wI, gI_wA, aln_wA, aln_wI, ckK_wA, ckK_wI, ldI_wA, stI_wA, pI_wA, om_some, jm_of, jm_to, jm_add, jm_mul, jm_div, jm_cmp, jm_sub, na_gF hR.1, na_gI hR.1, na_pI hR.1, na_aln hR.1, na_ck hR.1, na_ld hR.1, na_st hR.1, na_gF hS.1, na_gI hS.1, na_pI hS.1, na_aln hS.1, na_ck hS.1, na_ld hS.1, na_st hS.1, na_gF hIv', na_gI hIv', na_pI hIv', na_aln hIv', na_ck hIv', na_ld hIv', na_st hIv', hr, hS.2.1.1]))
  have hrt : gF (wA σ lr L (nI 0)) 9 1 r = some sc := hr
  refine Hx.cs (fun c3 => ?_) (fun c3 => ?_)
  · refine Hx.mo (fin _ li ni hp1 hIv.1 hR1.1 hS1 hr hrk c3 hR.2.1.1 hd1) (fun σ' _ h => ⟨?_, h.2⟩)
    exact (hF1.up (by simp)).t0 h.1
  · rw [sm_mul, nwA_ok (by omega)]
    obtain ⟨q1, q2, q3⟩ := cn_new (m := (L - n + 1) * 2) hp1.1 hIv.1 (by omega) (by omega)
    refine hx_bs (hx_nm ?_)
    rw [q1]
    refine hx_bs ?_
    have hir2 : rem ≠ into := fun e => hir e.symm
    have hIz : wi = 0 := (hIv.w0).mpr rfl
    have hzz : into < sz (wA σ lr L (nI 0)) := hp1.1.lt (by rw [hIv.1.1]; omega)
    have hsz : sI (wF (nw 100 ((L - n + 1) * 2) ((L - n + 1) * 2) (wA σ lr L (nI 0))) (fid 7 0) into (sz (wA σ lr L (nI 0)))) (fid 7 1) into = nI wi := by
      rw [(q2.2.2.2.2.1 into (by omega)).1]
      exact hIv.2.1.1
    have hI2 : Nv (wF (nw 100 ((L - n + 1) * 2) ((L - n + 1) * 2) (wA σ lr L (nI 0))) (fid 7 0) into (sz (wA σ lr L (nI 0)))) into (sz (wA σ lr L (nI 0))) ((L - n + 1) * 2) wi 0 := ⟨q3, ⟨hsz, fun i hi => by omega, by rw [hIz, Nat.pow_zero]; omega⟩, by omega, Or.inl hIz⟩
    have hF2 := cF.natG hp1 hI1 hIv.1 hiP (by omega) (by omega) aF.rf q2 aF.rf hI2
    have hR2 := q2.nv hp1.1 hR1 hir2
    have hrz : lr < sz (wA σ lr L (nI 0)) := hp1.1.lt (by rw [hR1.1.2.2.1]; omega)
    refine Hx.mo (fin _ _ _ hF2.hp q3 hR2.1 (q2.nv hp1.1 hS1 his) (hF2.gf (by decide) hr) (hF2.k (by exact hrk) (by omega)) (by omega) hR2.2.1.1 (fun j hj => ?_)) (fun σ' _ h => ⟨?_, h.2⟩)
    · rw [(q2.2.2.2.2.1 lr (by omega)).2.1]
      exact hd1 j hj
    · exact ((hF1.up (by simp)).t0 (hF2.up (by simp))).t0 h.1
theorem cn_divide {P : List Nat} {σ : St} {r a b into rem sc x y : Nat} (hp : HP P σ) (hrk : sK σ r = 10) (hr : gF σ 9 1 r = some sc) (hA : Nt σ a x) (hB : Nt σ b y) (hiP : into ∈ P) (hrP : rem ∈ P) (hsP : sc ∈ P) (hia : a ≠ into) (hib : b ≠ into) (hir : into ≠ rem) (hrb : b ≠ rem) (his : sc ≠ into) (hrs : sc ≠ rem) (hsb : b ≠ sc) (hx : x < 1000000000 ^ 900) :
    Hx (fX5_divide σ r a b into rem) (fun σ' _ => cF P [into, rem, sc] 0 0 σ σ' ∧ Nt σ' into (x / y) ∧ Nt σ' rem (x % y)) := by
  obtain ⟨zi, hI⟩ := hp.2 into hiP
  obtain ⟨zr, hR⟩ := hp.2 rem hrP
  have hx1 : x < 1000000000 ^ 1000 := Nat.lt_of_lt_of_le hx (bp_mono (by omega))
  rw [n_fX5_divide, sm_ckK hR.k8]
  refine hx_bs ?_
  refine Hx.bd (cn_setTo hp hR hA (Or.inl hrP) hx1) (fun σ1 _ h1 => ?_)
  obtain ⟨hF1, hR1⟩ := h1
  have hI1 := hI.keep hF1 (by simp; exact hir)
  have hB1 := hB.keep hF1 (by simp; exact hrb)
  have hA1 : Nt σ1 a x := by
    by_cases e : a = rem
    · rw [e]; exact hR1
    · exact hA.keep hF1 (by simp; exact e)
  obtain ⟨σ2, q1, hF2, hI2⟩ := cn_size0 hF1.hp hI1
  rw [q1]
  refine hx_bs ?_
  have hF12 : cF P [into, rem, sc] 0 0 σ σ2 := (hF1.up (by simp)).t0 (hF2.up (by simp))
  have hA2 := hA1.keep hF2 (by simp; exact hia)
  have hB2 := hB1.keep hF2 (by simp; exact hib)
  have hR2 := hR1.keep hF2 (by simp; exact fun e => hir e.symm)
  obtain ⟨l2, n2, w2, hBv⟩ := id hB2
  have hb9 := hBv.1.2.2.2.2
  have hw9 := hBv.2.2.1
  have hw0 := hBv.w0
  have e0 : ∀ {y' : Nat}, x < y' ∨ y' = 0 → x / y' = 0 ∧ x % y' = x := by
    intro y' h
    rcases h with h | h
    · exact ⟨Nat.div_eq_of_lt h, Nat.mod_eq_of_lt h⟩
    · rw [h]
      exact ⟨Nat.div_zero x, Nat.mod_zero x⟩
  (repeat (first | with_reducible refine hx_bs ?_ | with_reducible refine hx_cs ?_ | with_reducible refine hx_t ?_ | with_reducible refine hx_f ?_ | ((conv => arg 1; arg 1; simp (disch := first | assumption | omega) only [sm_add, sm_mul, sm_le, sm_lt, sm_eq, sm_div, sm_sub, mx_le, mx_lt, mx_eq, xm_le, xm_lt, xm_eq, iz_le, iz_lt, iz_eq, nb0, nb1, Nat.zero_le, not_true_eq_false, not_false_eq_true, Nat.reduceEqDiff, Bool.false_eq_true, gF_wA, gF_wI, gI_wA, aln_wA, aln_wI, ckK_wA, ckK_wI, ldI_wA, stI_wA, pI_wA, om_some, jm_of, jm_to, jm_add, jm_mul, jm_div, jm_cmp, jm_sub, na_gF hBv.1, na_gI hBv.1, na_pI hBv.1, na_aln hBv.1, na_ck hBv.1, na_ld hBv.1, na_st hBv.1, hBv.2.1.1]); first | with_reducible refine hx_bs ?_ | with_reducible refine hx_cs ?_ | with_reducible refine hx_t ?_ | with_reducible refine hx_f ?_ | with_reducible refine hx_nm ?_))); (try (conv => arg 1; arg 1; simp (disch := first | assumption | omega) only [sm_add, sm_mul, sm_le, sm_lt, sm_eq, sm_div, sm_sub, mx_le, mx_lt, mx_eq, xm_le, xm_lt, xm_eq, iz_le, iz_lt, iz_eq, nb0, nb1, Nat.zero_le, not_true_eq_false, not_false_eq_true, Nat.reduceEqDiff, Bool.false_eq_true, gF_wA, gF_wI, gI_wA, aln_wA, aln_wI, ckK_wA, ckK_wI, ldI_wA, stI_wA, pI_wA, om_some, jm_of, jm_to, jm_add, jm_mul, jm_div, jm_cmp, jm_sub, na_gF hBv.1, na_gI hBv.1, na_pI hBv.1, na_aln hBv.1, na_ck hBv.1, na_ld hBv.1, na_st hBv.1, hBv.2.1.1]))
  refine Hx.cs (fun c => ?_) (fun c => ?_)
  · obtain ⟨e1, e2⟩ := e0 (Or.inr (hw0.mp c))
    refine Hx.ret ⟨hF12, ?_, ?_⟩
    · rw [e1]; exact hI2
    · rw [e2]; exact hR2
  · rw [sm_ckK hA2.k8]
    refine hx_bs ?_
    rw [cn_against hA2 hB2]
    refine hx_cs ?_
    refine Hx.cs (fun c2 => ?_) (fun c2 => ?_)
    · have hyx : y ≤ x := by
        apply Nat.le_of_not_lt
        intro q
        unfold cmp3 at c2
        rw [if_pos q, show nI 0 = iz (0 : Int) from rfl, iz_le (by omega) (by omega) (by omega) (by omega)] at c2
        omega
      (repeat (first | with_reducible refine hx_bs ?_ | with_reducible refine hx_cs ?_ | with_reducible refine hx_t ?_ | with_reducible refine hx_f ?_ | ((conv => arg 1; arg 1; simp (disch := first | assumption | omega) only [sm_add, sm_mul, sm_le, sm_lt, sm_eq, sm_div, sm_sub, mx_le, mx_lt, mx_eq, xm_le, xm_lt, xm_eq, iz_le, iz_lt, iz_eq, nb0, nb1, Nat.zero_le, not_true_eq_false, not_false_eq_true, Nat.reduceEqDiff, Bool.false_eq_true, gF_wA, gF_wI, gI_wA, aln_wA, aln_wI, ckK_wA, ckK_wI, ldI_wA, stI_wA, pI_wA, om_some, jm_of, jm_to, jm_add, jm_mul, jm_div, jm_cmp, jm_sub, na_gF hBv.1, na_gI hBv.1, na_pI hBv.1, na_aln hBv.1, na_ck hBv.1, na_ld hBv.1, na_st hBv.1, hBv.2.1.1]); first | with_reducible refine hx_bs ?_ | with_reducible refine hx_cs ?_ | with_reducible refine hx_t ?_ | with_reducible refine hx_f ?_ | with_reducible refine hx_nm ?_))); (try (conv => arg 1; arg 1; simp (disch := first | assumption | omega) only [sm_add, sm_mul, sm_le, sm_lt, sm_eq, sm_div, sm_sub, mx_le, mx_lt, mx_eq, xm_le, xm_lt, xm_eq, iz_le, iz_lt, iz_eq, nb0, nb1, Nat.zero_le, not_true_eq_false, not_false_eq_true, Nat.reduceEqDiff, Bool.false_eq_true, gF_wA, gF_wI, gI_wA, aln_wA, aln_wI, ckK_wA, ckK_wI, ldI_wA, stI_wA, pI_wA, om_some, jm_of, jm_to, jm_add, jm_mul, jm_div, jm_cmp, jm_sub, na_gF hBv.1, na_gI hBv.1, na_pI hBv.1, na_aln hBv.1, na_ck hBv.1, na_ld hBv.1, na_st hBv.1, hBv.2.1.1]))
      refine Hx.cs (fun c3 => ?_) (fun c3 => ?_)
      · rw [sm_ckK hI2.k8]
        refine hx_bs ?_
        refine Hx.bd (cn_setTo hF2.hp hI2 hA2 (Or.inl hiP) hx1) (fun σ3 _ h3 => ?_)
        obtain ⟨hF3, hI3⟩ := h3
        have hB3 := hBv.keep hF3 (by simp; exact hib)
        have hR3 := hR2.keep hF3 (by simp; exact fun e => hir e.symm)
        have hyB : y < 1000000000 := by
          have := hBv.2.1.2.2
          rw [c3, bw1] at this
          exact this
        have hd := hB3.2.1.2.1 0 (by omega)
        rw [bq_0, Nat.mod_eq_of_lt hyB] at hd
        (repeat (first | with_reducible refine hx_bs ?_ | with_reducible refine hx_cs ?_ | with_reducible refine hx_t ?_ | with_reducible refine hx_f ?_ | ((conv => arg 1; arg 1; simp (disch := first | assumption | omega) only [sm_add, sm_mul, sm_le, sm_lt, sm_eq, sm_div, sm_sub, mx_le, mx_lt, mx_eq, xm_le, xm_lt, xm_eq, iz_le, iz_lt, iz_eq, nb0, nb1, Nat.zero_le, not_true_eq_false, not_false_eq_true, Nat.reduceEqDiff, Bool.false_eq_true, gF_wA, gF_wI, gI_wA, aln_wA, aln_wI, ckK_wA, ckK_wI, ldI_wA, stI_wA, pI_wA, om_some, jm_of, jm_to, jm_add, jm_mul, jm_div, jm_cmp, jm_sub, na_gF hB3.1, na_gI hB3.1, na_pI hB3.1, na_aln hB3.1, na_ck hB3.1, na_ld hB3.1, na_st hB3.1, hd]); first | with_reducible refine hx_bs ?_ | with_reducible refine hx_cs ?_ | with_reducible refine hx_t ?_ | with_reducible refine hx_f ?_ | with_reducible refine hx_nm ?_))); (try (conv => arg 1; arg 1; simp (disch := first | assumption | omega) only [sm_add, sm_mul, sm_le, sm_lt, sm_eq, sm_div, sm_sub, mx_le, mx_lt, mx_eq, xm_le, xm_lt, xm_eq, iz_le, iz_lt, iz_eq, nb0, nb1, Nat.zero_le, not_true_eq_false, not_false_eq_true, Nat.reduceEqDiff, Bool.false_eq_true, gF_wA, gF_wI, gI_wA, aln_wA, aln_wI, ckK_wA, ckK_wI, ldI_wA, stI_wA, pI_wA, om_some, jm_of, jm_to, jm_add, jm_mul, jm_div, jm_cmp, jm_sub, na_gF hB3.1, na_gI hB3.1, na_pI hB3.1, na_aln hB3.1, na_ck hB3.1, na_ld hB3.1, na_st hB3.1, hd]))
        rw [sm_ckK hI3.k8]
        refine hx_bs ?_
        refine Hx.bd (cn_lower hF3.hp hI3 (by omega) (by omega)) (fun σ4 v h4 => ?_)
        obtain ⟨hF4, rfl, hI4⟩ := h4
        have hR4 := hR3.keep hF4 (by simp; exact fun e => hir e.symm)
        rw [sm_ckK hR4.k8]
        refine hx_bs ?_
        have hm := Nat.mod_lt x (show 0 < y by omega)
        rw [jm_of (by omega)]
        refine Hx.bd (cn_setSmall hF4.hp hR4 (by omega)) (fun σ5 _ h5 => ?_)
        obtain ⟨hF5, hR5⟩ := h5
        refine Hx.ret ⟨((hF12.t0 (hF3.up (by simp))).t0 (hF4.up (by simp))).t0 (hF5.up (by simp)), hI4.keep hF5 (by simp; exact hir), hR5⟩
      · obtain ⟨m, rfl⟩ : ∃ m, w2 = m + 1 := ⟨w2 - 1, by omega⟩
        have hT2 := hBv.top
        have hd := hBv.2.1.2.1 m (by omega)
        rw [Nat.mod_eq_of_lt hT2.2] at hd
        have hylo : bq y m * 1000000000 ^ m ≤ y := Nat.div_mul_le_self y _
        have hyhi : y < (bq y m + 1) * 1000000000 ^ m := by
          rw [Nat.add_mul, Nat.one_mul]
          exact Nat.lt_div_mul_add (bp_pos m)
        obtain ⟨s1, s2, s3⟩ := scale_top hyhi hylo (by omega) hT2.2
        have hr2 := hF12.gf (by decide) hr
        have hrk2 := hF12.k hrk (by omega)
        (repeat (first | with_reducible refine hx_bs ?_ | with_reducible refine hx_cs ?_ | with_reducible refine hx_t ?_ | with_reducible refine hx_f ?_ | ((conv => arg 1; arg 1; simp (disch := first | assumption | omega) only [sm_add, sm_mul, sm_le, sm_lt, sm_eq, sm_div, sm_sub, mx_le, mx_lt, mx_eq, xm_le, xm_lt, xm_eq, iz_le, iz_lt, iz_eq, nb0, nb1, Nat.zero_le, not_true_eq_false, not_false_eq_true, Nat.reduceEqDiff, Bool.false_eq_true, gF_wA, gF_wI, gI_wA, aln_wA, aln_wI, ckK_wA, ckK_wI, ldI_wA, stI_wA, pI_wA, om_some, jm_of, jm_to, jm_add, jm_mul, jm_div, jm_cmp, jm_sub, na_gF hBv.1, na_gI hBv.1, na_pI hBv.1, na_aln hBv.1, na_ck hBv.1, na_ld hBv.1, na_st hBv.1, hBv.2.1.1, Nat.add_sub_cancel, hd, hr2]); first | with_reducible refine hx_bs ?_ | with_reducible refine hx_cs ?_ | with_reducible refine hx_t ?_ | with_reducible refine hx_f ?_ | with_reducible refine hx_nm ?_))); (try (conv => arg 1; arg 1; simp (disch := first | assumption | omega) only [sm_add, sm_mul, sm_le, sm_lt, sm_eq, sm_div, sm_sub, mx_le, mx_lt, mx_eq, xm_le, xm_lt, xm_eq, iz_le, iz_lt, iz_eq, nb0, nb1, Nat.zero_le, not_true_eq_false, not_false_eq_true, Nat.reduceEqDiff, Bool.false_eq_true, gF_wA, gF_wI, gI_wA, aln_wA, aln_wI, ckK_wA, ckK_wI, ldI_wA, stI_wA, pI_wA, om_some, jm_of, jm_to, jm_add, jm_mul, jm_div, jm_cmp, jm_sub, na_gF hBv.1, na_gI hBv.1, na_pI hBv.1, na_aln hBv.1, na_ck hBv.1, na_ld hBv.1, na_st hBv.1, hBv.2.1.1, Nat.add_sub_cancel, hd, hr2]))
        rw [ckD_ok (by omega) (by omega)]
        refine hx_bs ?_
        (repeat (first | with_reducible refine hx_bs ?_ | with_reducible refine hx_cs ?_ | with_reducible refine hx_t ?_ | with_reducible refine hx_f ?_ | ((conv => arg 1; arg 1; simp (disch := first | assumption | omega) only [sm_add, sm_mul, sm_le, sm_lt, sm_eq, sm_div, sm_sub, mx_le, mx_lt, mx_eq, xm_le, xm_lt, xm_eq, iz_le, iz_lt, iz_eq, nb0, nb1, Nat.zero_le, not_true_eq_false, not_false_eq_true, Nat.reduceEqDiff, Bool.false_eq_true, gF_wA, gF_wI, gI_wA, aln_wA, aln_wI, ckK_wA, ckK_wI, ldI_wA, stI_wA, pI_wA, om_some, jm_of, jm_to, jm_add, jm_mul, jm_div, jm_cmp, jm_sub, na_gF hBv.1, na_gI hBv.1, na_pI hBv.1, na_aln hBv.1, na_ck hBv.1, na_ld hBv.1, na_st hBv.1, hr2]); first | with_reducible refine hx_bs ?_ | with_reducible refine hx_cs ?_ | with_reducible refine hx_t ?_ | with_reducible refine hx_f ?_ | with_reducible refine hx_nm ?_))); (try (conv => arg 1; arg 1; simp (disch := first | assumption | omega) only [sm_add, sm_mul, sm_le, sm_lt, sm_eq, sm_div, sm_sub, mx_le, mx_lt, mx_eq, xm_le, xm_lt, xm_eq, iz_le, iz_lt, iz_eq, nb0, nb1, Nat.zero_le, not_true_eq_false, not_false_eq_true, Nat.reduceEqDiff, Bool.false_eq_true, gF_wA, gF_wI, gI_wA, aln_wA, aln_wI, ckK_wA, ckK_wI, ldI_wA, stI_wA, pI_wA, om_some, jm_of, jm_to, jm_add, jm_mul, jm_div, jm_cmp, jm_sub, na_gF hBv.1, na_gI hBv.1, na_pI hBv.1, na_aln hBv.1, na_ck hBv.1, na_ld hBv.1, na_st hBv.1, hr2]))
        generalize hcc : 1000000000 / (bq y m + 1) = cc at *
        have hcB : cc ≤ 1000000000 := by rw [← hcc]; exact Nat.div_le_self _ _
        obtain ⟨zs, hS⟩ := hF2.hp.2 sc hsP
        rw [sm_ckK hS.k8]
        refine hx_bs ?_
        have hy1 : y < 1000000000 ^ 900 := Nat.lt_of_le_of_lt hyx hx
        have hy2 : y < 1000000000 ^ 1000 := Nat.lt_of_lt_of_le hy1 (bp_mono (by omega))
        refine Hx.bd (cn_setTo hF2.hp hS hB2 (Or.inl hsP) hy2) (fun σ3 _ h3 => ?_)
        obtain ⟨hF3, hS3⟩ := h3
        have hr3 := hF3.gf (by decide) hr2
        rw [hr3]
        refine hx_bs ?_
        rw [sm_ckK hS3.k8]
        refine hx_bs ?_
        refine Hx.bd (cn_raise hF3.hp hS3 s1 hcB (show 0 < 1000000000 by omega) hy2 (Or.inl hsP)) (fun σ4 _ h4 => ?_)
        obtain ⟨hF4, hS4⟩ := h4
        rw [Nat.add_zero] at hS4
        have hR3 := hR2.keep hF3 (by simp; exact fun e => hrs e.symm)
        have hR4 := hR3.keep hF4 (by simp; exact fun e => hrs e.symm)
        have hI3 := hI2.keep hF3 (by simp; exact fun e => his e.symm)
        have hI4 := hI3.keep hF4 (by simp; exact fun e => his e.symm)
        rw [sm_ckK hR4.k8]
        refine hx_bs ?_
        refine Hx.bd (cn_raise hF4.hp hR4 s1 hcB (show 0 < 1000000000 by omega) hx1 (Or.inl hrP)) (fun σ5 _ h5 => ?_)
        obtain ⟨hF5, hR5⟩ := h5
        rw [Nat.add_zero] at hR5
        have hS5 := hS4.keep hF5 (by simp; exact hrs)
        have hI5 := hI4.keep hF5 (by simp; exact hir)
        have hF15 : cF P [into, rem, sc] 0 0 σ σ5 := ((hF12.t0 (hF3.up (by simp))).t0 (hF4.up (by simp))).t0 (hF5.up (by simp))
        have hr5 := hF15.gf (by decide) hr
        have hrk5 := hF15.k hrk (by omega)
        obtain ⟨lr, nr, L, hRv⟩ := id hR5
        obtain ⟨lsc, nsc, ws, hSv⟩ := id hS5
        have hws : ws = m + 1 := by
          have h1 := hSv.wk m
          have h2 := hSv.wk (m + 1)
          have h3 := bp_ge.mpr (show 0 < bq (y * cc) m by omega)
          omega
        subst hws
        have hr9 := hRv.1.2.2.2.2
        have hrw := hRv.2.2.1
        have hnL : m + 1 ≤ L := by
          have h1 := hRv.wk m
          have h3 := bp_ge.mpr (show 0 < bq (y * cc) m by omega)
          have h4 : y * cc ≤ x * cc := Nat.mul_le_mul_right cc hyx
          omega
        have hL9 : L ≤ 901 := by
          refine bwid_le hRv.2.2.2 ?_
          rw [Nat.pow_succ]
          exact Nat.lt_of_lt_of_le (Nat.mul_lt_mul_of_pos_right hx s1) (Nat.mul_le_mul_left _ hcB)
        have hcc0 : 0 < cc := s1
        have hq : x * cc / (y * cc) = x / y := Nat.mul_div_mul_right x y hcc0
        have hq2 : x * cc % (y * cc) / cc = x % y := by
          rw [Nat.mul_mod_mul_right, Nat.mul_div_cancel _ hcc0]
        (repeat (first | with_reducible refine hx_bs ?_ | with_reducible refine hx_cs ?_ | with_reducible refine hx_t ?_ | with_reducible refine hx_f ?_ | ((conv => arg 1; arg 1; simp (disch := first | assumption | omega) only [sm_add, sm_mul, sm_le, sm_lt, sm_eq, sm_div, sm_sub, mx_le, mx_lt, mx_eq, xm_le, xm_lt, xm_eq, iz_le, iz_lt, iz_eq, nb0, nb1, Nat.zero_le, not_true_eq_false, not_false_eq_true, Nat.reduceEqDiff, Bool.false_eq_true, gF_wA, gF_wI, gI_wA, aln_wA, aln_wI, ckK_wA, ckK_wI, ldI_wA, stI_wA, pI_wA, om_some, jm_of, jm_to, jm_add, jm_mul, jm_div, jm_cmp, jm_sub, na_gF hRv.1, na_gI hRv.1, na_pI hRv.1, na_aln hRv.1, na_ck hRv.1, na_ld hRv.1, na_st hRv.1, hRv.2.1.1]); first | with_reducible refine hx_bs ?_ | with_reducible refine hx_cs ?_ | with_reducible refine hx_t ?_ | with_reducible refine hx_f ?_ | with_reducible refine hx_nm ?_))); (try (conv => arg 1; arg 1; simp (disch := first | assumption | omega) only [sm_add, sm_mul, sm_le, sm_lt, sm_eq, sm_div, sm_sub, mx_le, mx_lt, mx_eq, xm_le, xm_lt, xm_eq, iz_le, iz_lt, iz_eq, nb0, nb1, Nat.zero_le, not_true_eq_false, not_false_eq_true, Nat.reduceEqDiff, Bool.false_eq_true, gF_wA, gF_wI, gI_wA, aln_wA, aln_wI, ckK_wA, ckK_wI, ldI_wA, stI_wA, pI_wA, om_some, jm_of, jm_to, jm_add, jm_mul, jm_div, jm_cmp, jm_sub, na_gF hRv.1, na_gI hRv.1, na_pI hRv.1, na_aln hRv.1, na_ck hRv.1, na_ld hRv.1, na_st hRv.1, hRv.2.1.1]))
        refine Hx.cs (fun c4 => ?_) (fun c4 => ?_)
        · refine Hx.mo (cn_divE hF5.hp hrk5 hr5 hiP hI5 rfl hRv hSv hir his hrs (by omega) s3 hnL c4 (by omega) s1 hcB) (fun σ6 _ h6 => ?_)
          rw [hq, hq2] at h6
          exact ⟨hF15.t0 (h6.1.mo (by simp) (Nat.le_refl _) (Nat.le_refl _)), h6.2⟩
        · (repeat (first | with_reducible refine hx_bs ?_ | with_reducible refine hx_cs ?_ | with_reducible refine hx_t ?_ | with_reducible refine hx_f ?_ | ((conv => arg 1; arg 1; simp (disch := first | assumption | omega) only [sm_add, sm_mul, sm_le, sm_lt, sm_eq, sm_div, sm_sub, mx_le, mx_lt, mx_eq, xm_le, xm_lt, xm_eq, iz_le, iz_lt, iz_eq, nb0, nb1, Nat.zero_le, not_true_eq_false, not_false_eq_true, Nat.reduceEqDiff, Bool.false_eq_true, gF_wA, gF_wI, gI_wA, aln_wA, aln_wI, ckK_wA, ckK_wI, ldI_wA, stI_wA, pI_wA, om_some, jm_of, jm_to, jm_add, jm_mul, jm_div, jm_cmp, jm_sub, na_gF hRv.1, na_gI hRv.1, na_pI hRv.1, na_aln hRv.1, na_ck hRv.1, na_ld hRv.1, na_st hRv.1, hRv.2.1.1]); first | with_reducible refine hx_bs ?_ | with_reducible refine hx_cs ?_ | with_reducible refine hx_t ?_ | with_reducible refine hx_f ?_ | with_reducible refine hx_nm ?_))); (try (conv => arg 1; arg 1; simp (disch := first | assumption | omega) only [sm_add, sm_mul, sm_le, sm_lt, sm_eq, sm_div, sm_sub, mx_le, mx_lt, mx_eq, xm_le, xm_lt, xm_eq, iz_le, iz_lt, iz_eq, nb0, nb1, Nat.zero_le, not_true_eq_false, not_false_eq_true, Nat.reduceEqDiff, Bool.false_eq_true, gF_wA, gF_wI, gI_wA, aln_wA, aln_wI, ckK_wA, ckK_wI, ldI_wA, stI_wA, pI_wA, om_some, jm_of, jm_to, jm_add, jm_mul, jm_div, jm_cmp, jm_sub, na_gF hRv.1, na_gI hRv.1, na_pI hRv.1, na_aln hRv.1, na_ck hRv.1, na_ld hRv.1, na_st hRv.1, hRv.2.1.1]))
          obtain ⟨σ6, p1, p2, p3, p4, p5⟩ := cn_copy (m := L * 2 + 1) hF5.hp.1 hRv.1 (by omega) (by omega)
          rw [p1]
          refine hx_cs ?_
          rw [p2]
          refine hx_bs ?_
          have hzz : rem < sz σ5 := hF5.hp.1.lt (by rw [hRv.1.1]; omega)
          have hR6 : Nv (wF σ6 (fid 7 0) rem (sz σ5)) rem (sz σ5) (L * 2 + 1) L (x * cc) := ⟨p4, ⟨by rw [(p3.2.2.2.2.1 rem (by omega)).1]; exact hRv.2.1.1, fun i hi => (p5 i (by omega)).trans (hRv.2.1.2.1 i hi), hRv.2.1.2.2⟩, by omega, hRv.2.2.2⟩
          have hF6 := cF.natG hF5.hp hR5 hRv.1 hrP (by omega) (by omega) aF.rf p3 aF.rf hR6
          refine Hx.mo (cn_divE hF6.hp (hF6.k hrk5 (by omega)) (hF6.gf (by decide) hr5) hiP (hI5.keep hF6 (by simp; exact hir)) rfl hR6 (hSv.keep hF6 (by simp; exact hrs)) hir his hrs (by omega) s3 hnL (by omega) (by omega) s1 hcB) (fun σ7 _ h7 => ?_)
          rw [hq, hq2] at h7
          exact ⟨(hF15.t0 (hF6.up (by simp))).t0 (h7.1.mo (by simp) (Nat.le_refl _) (Nat.le_refl _)), h7.2⟩
    · have hyx : x < y := by
        apply Nat.lt_of_not_le
        intro q
        unfold cmp3 at c2
        rw [if_neg (by omega), show nI 0 = iz (0 : Int) from rfl] at c2
        split at c2
        · rw [iz_le (by omega) (by omega) (by omega) (by omega)] at c2
          omega
        · rw [iz_le (by omega) (by omega) (by omega) (by omega)] at c2
          omega
      obtain ⟨e1, e2⟩ := e0 (Or.inl hyx)
      refine Hx.ret ⟨hF12, ?_, ?_⟩
      · rw [e1]; exact hI2
      · rw [e2]; exact hR2
