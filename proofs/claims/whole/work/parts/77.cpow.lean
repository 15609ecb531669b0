/-! ===== the class' Reckoner: power, factorial, round ===== -/
theorem lit30 : (1000000000000000000000000000000 : Nat) = dig30 := rfl
theorem dig30_bp : sml (dig30) 4 := by
  show dig30 < 1000000000 ^ 4
  rw [bw4, ← lit30]
  omega
theorem cr_multiplyOften {x b y into K : Nat} (hI : into ∈ PX x) (hix : x + 40 < into) (hbi : b ≠ into) (hbx : x + 40 < b ∨ b < x + 19) (hy : sml (y) 4) (hK : K ≤ 100) : ∀ (f : Nat) (σ : St) (j : Nat), HP (PX x) σ → XS σ x → Nt σ b y → Nt σ into (y ^ j) → j ≤ K → K - j < f → sml (y ^ j) 8 →
    Hx (fX5_multiplyOften_8 f σ (x + 18) b (nI K) into (nI j)) (fun σ' _ => cW x (s2 into (x + 37)) 0 0 σ σ' ∧ ∃ i, i ≤ K ∧ Nt σ' into (y ^ i) ∧ sml (y ^ i) 8 ∧ (i = K ∨ dig30 ≤ y ^ i)) := by
  intro f
  induction f with
  | zero => intro σ j _ _ _ _ _ h; omega
  | succ f ih =>
    intro σ j hp hx hB hN hj hf hb
    rw [n_fX5_multiplyOften_8]
    refine Hx.cs (fun c => ?_) (fun c => ?_)
    · rw [sm_le (by omega) (by omega)] at c
      exact Hx.ret ⟨cW.rf hp, j, hj, hN, hb, Or.inl (by omega)⟩
    · rw [sm_le (by omega) (by omega)] at c
      rw [sm_ckK hN.k8]
      refine hx_bs ?_
      rw [cn_fits hN]
      refine hx_cs (Hx.cs (fun c2 => ?_) (fun c2 => ?_))
      · rw [nb0, lit30] at c2
        exact Hx.ret ⟨cW.rf hp, j, hj, hN, hb, Or.inr (by omega)⟩
      · rw [nb0, lit30] at c2
        have c2 := Classical.not_not.mp c2
        have hs := Nat.lt_trans c2 dig30_bp
        have hpr : sml (y ^ j * y) 8 := bp_mul hs hy
        have hG := cW.rf (S := (s2 into (x + 37))) hp
        (try simp (disch := first | assumption | omega) only [sm_bind, sm_cb, sm_nm, ↓reduceIte, xf_9_0 hx, xf_9_1 hx, xf_9_2 hx, xf_9_3 hx, xf_9_4 hx, xf_9_5 hx, xf_9_6 hx, xf_9_7 hx, xf_9_8 hx, xf_9_9 hx, xf_9_10 hx, xf_9_11 hx, xf_9_12 hx, xf_9_13 hx, xf_9_14 hx, xf_9_15 hx, xf_9_16 hx, xf_5_1_45 hx, xf_5_2_45 hx, xf_5_1_50 hx, xf_5_2_50 hx, xf_5_1_55 hx, xf_5_2_55 hx, xf_5_1_60 hx, xf_5_2_60 hx, xk_18 hx, xk_19 hx, xk_21 hx, xk_23 hx, xk_25 hx, xk_27 hx, xk_29 hx, xk_31 hx, xk_33 hx, xk_35 hx, xk_37 hx, xk_39 hx, xk_41 hx, xk_43 hx, xk_45 hx, xk_46 hx, xk_48 hx, xk_50 hx, xk_51 hx, xk_53 hx, xk_55 hx, xk_56 hx, xk_58 hx, xk_60 hx, xk_61 hx, xk_63 hx, nb0, nb1])
        refine Hx.bd (cw_setProduct hp hN hB (show x + 37 ∈ PX x by simp) (by omega) (by omega) (lt_bp hs (by omega)) (lt_bp hy (by omega))) (fun σ1 v1 h1 => ?_)
        obtain ⟨hF1, hL⟩ := h1
        have hp1 := hF1.hp
        have hx1 := hx.kW hF1
        have hG1 := hG.tr0 hF1 (fun r _ hr => by simp only [s1, s2, s3, sG, sR, sRc] at hr ⊢; omega)
        try replace hB := hB.kW hF1 (by first | (simp only [s1, s2, s3, sG, sR, sRc, Nat.add_left_cancel_iff, Nat.reduceEqDiff, or_self, or_false, false_or, not_false_eq_true, Nat.add_le_add_iff_left, Nat.reduceLeDiff, and_false, false_and]; done) | (simp only [s1, s2, s3, sG, sR, sRc]; omega))
        try replace hN := hN.kW hF1 (by first | (simp only [s1, s2, s3, sG, sR, sRc, Nat.add_left_cancel_iff, Nat.reduceEqDiff, or_self, or_false, false_or, not_false_eq_true, Nat.add_le_add_iff_left, Nat.reduceLeDiff, and_false, false_and]; done) | (simp only [s1, s2, s3, sG, sR, sRc]; omega))
        (try simp (disch := first | assumption | omega) only [sm_bind, sm_cb, sm_nm, ↓reduceIte, xf_9_0 hx1, xf_9_1 hx1, xf_9_2 hx1, xf_9_3 hx1, xf_9_4 hx1, xf_9_5 hx1, xf_9_6 hx1, xf_9_7 hx1, xf_9_8 hx1, xf_9_9 hx1, xf_9_10 hx1, xf_9_11 hx1, xf_9_12 hx1, xf_9_13 hx1, xf_9_14 hx1, xf_9_15 hx1, xf_9_16 hx1, xf_5_1_45 hx1, xf_5_2_45 hx1, xf_5_1_50 hx1, xf_5_2_50 hx1, xf_5_1_55 hx1, xf_5_2_55 hx1, xf_5_1_60 hx1, xf_5_2_60 hx1, xk_18 hx1, xk_19 hx1, xk_21 hx1, xk_23 hx1, xk_25 hx1, xk_27 hx1, xk_29 hx1, xk_31 hx1, xk_33 hx1, xk_35 hx1, xk_37 hx1, xk_39 hx1, xk_41 hx1, xk_43 hx1, xk_45 hx1, xk_46 hx1, xk_48 hx1, xk_50 hx1, xk_51 hx1, xk_53 hx1, xk_55 hx1, xk_56 hx1, xk_58 hx1, xk_60 hx1, xk_61 hx1, xk_63 hx1, nb0, nb1, sm_ckK hN.k8])
        refine Hx.bd (cw_setTo hp1 hN hL (Or.inl hI) (lt_bp hpr (by omega))) (fun σ2 v2 h2 => ?_)
        obtain ⟨hF2, hN⟩ := h2
        have hp2 := hF2.hp
        have hx2 := hx1.kW hF2
        have hG2 := hG1.tr0 hF2 (fun r _ hr => by simp only [s1, s2, s3, sG, sR, sRc] at hr ⊢; omega)
        try replace hB := hB.kW hF2 (by first | (simp only [s1, s2, s3, sG, sR, sRc, Nat.add_left_cancel_iff, Nat.reduceEqDiff, or_self, or_false, false_or, not_false_eq_true, Nat.add_le_add_iff_left, Nat.reduceLeDiff, and_false, false_and]; done) | (simp only [s1, s2, s3, sG, sR, sRc]; omega))
        try replace hL := hL.kW hF2 (by first | (simp only [s1, s2, s3, sG, sR, sRc, Nat.add_left_cancel_iff, Nat.reduceEqDiff, or_self, or_false, false_or, not_false_eq_true, Nat.add_le_add_iff_left, Nat.reduceLeDiff, and_false, false_and]; done) | (simp only [s1, s2, s3, sG, sR, sRc]; omega))
        (try simp (disch := first | assumption | omega) only [sm_bind, sm_cb, sm_nm, ↓reduceIte, xf_9_0 hx2, xf_9_1 hx2, xf_9_2 hx2, xf_9_3 hx2, xf_9_4 hx2, xf_9_5 hx2, xf_9_6 hx2, xf_9_7 hx2, xf_9_8 hx2, xf_9_9 hx2, xf_9_10 hx2, xf_9_11 hx2, xf_9_12 hx2, xf_9_13 hx2, xf_9_14 hx2, xf_9_15 hx2, xf_9_16 hx2, xf_5_1_45 hx2, xf_5_2_45 hx2, xf_5_1_50 hx2, xf_5_2_50 hx2, xf_5_1_55 hx2, xf_5_2_55 hx2, xf_5_1_60 hx2, xf_5_2_60 hx2, xk_18 hx2, xk_19 hx2, xk_21 hx2, xk_23 hx2, xk_25 hx2, xk_27 hx2, xk_29 hx2, xk_31 hx2, xk_33 hx2, xk_35 hx2, xk_37 hx2, xk_39 hx2, xk_41 hx2, xk_43 hx2, xk_45 hx2, xk_46 hx2, xk_48 hx2, xk_50 hx2, xk_51 hx2, xk_53 hx2, xk_55 hx2, xk_56 hx2, xk_58 hx2, xk_60 hx2, xk_61 hx2, xk_63 hx2, nb0, nb1])
        rw [sm_add, ← Nat.pow_succ] at *
        refine Hx.mo (ih σ2 (j + 1) hp2 hx2 hB hN (by omega) (by omega) hpr) (fun σ3 _ h => ⟨hG2.tr0 h.1 (fun r _ hr => hr), h.2⟩)
theorem pow_up {y i k : Nat} (hik : i ≤ k) (h : dig30 ≤ y ^ i) : dig30 ≤ y ^ k := by
  have h0 : 0 < y := by
    apply Nat.pos_of_ne_zero
    intro e
    rw [e] at h
    cases i with
    | zero => simp at h; exact absurd h (by decide)
    | succ i => rw [Nat.pow_succ, Nat.mul_zero] at h; exact absurd h (by decide)
  exact Nat.le_trans h (Nat.pow_le_pow_right h0 hik)
/-- what is given: fits just if the value does, and then is it -/
def Gv (σ : St) (a : Nat) (Q : Qv) : Prop := ∃ (s : Int) (n d : Nat), FX σ a s n d ∧ (n < dig30 ∧ d < dig30 ↔ qsm Q) ∧ (n < dig30 ∧ d < dig30 → (s, n, d) = Q) ∧ sml (n) 300 ∧ sml (d) 300
theorem Gv.mk {σ : St} {a n d : Nat} {s : Int} {Q : Qv} (h : FX σ a s n d) (e : (s, n, d) = Q) (hn : sml (n) 300) (hd : sml (d) 300) : Gv σ a Q := by
  subst e
  exact ⟨s, n, d, h, Iff.rfl, fun _ => rfl, hn, hd⟩
theorem cr_power {x a into n d : Nat} {s e : Int} {σ : St} (hp : HP (PX x) σ) (hx : XS σ x) (hA : FX σ a s n d) (fsI : FS σ into) (hI : into + 1 ∈ PX x) (hI3 : into + 3 ∈ PX x) (hia : into ≠ a) (hax : x + 40 < a ∨ a + 3 < x + 19) (hix : x + 40 < into) (hq : qok (s, n, d)) (he : -100 ≤ e ∧ e ≤ 100) (h0 : ¬ (s = 0 ∧ e < 0)) :
    Hx (fX5_power σ (x + 18) a (iz e) into) (fun σ' _ => cW x (sR x into) 0 0 σ σ' ∧ Gv σ' into (qmk (if s < 0 ∧ e.natAbs % 2 = 1 then -1 else 1) (pwb (s, n, d) e ^ e.natAbs) (pwc (s, n, d) e ^ e.natAbs))) := by
  obtain ⟨fsA, sgA, hN, hD⟩ := hA
  have nea := fsI.ne fsA hia
  have hsg := hq.sg
  have hn4 : sml (n) 4 := Nat.lt_trans hq.2.2.2.2.1 dig30_bp
  have hd4 : sml (d) 4 := Nat.lt_trans hq.2.2.2.2.2 dig30_bp
  have hgc : Nat.gcd n d = 1 := hq.2.2.2.1
  obtain ⟨z, hZ⟩ := hp.2 _ hI
  obtain ⟨z3, hZ3⟩ := hp.2 _ hI3
  have hk : e.natAbs ≤ 100 := by omega
  have ele : (nI 0 ≤ iz e) = (0 ≤ e) := by rw [show nI 0 = iz (0 : Int) from rfl, iz_le (by omega) (by omega) (by omega) (by omega)]
  have eab : (if nI 0 ≤ iz e then iz e else nI 0 - iz e) = nI e.natAbs := by
    by_cases c : 0 ≤ e
    · rw [if_pos (by rw [ele]; exact c), sm_iz]
      congr 1
      omega
    · rw [if_neg (by rw [ele]; exact c), show nI 0 = iz (0 : Int) from rfl, iz_sub, sm_iz]
      congr 1
      omega
  -- both multiplied
  have hgo : ∀ (b c y w : Nat), (b = a + 1 ∧ c = a + 3 ∧ y = n ∧ w = d ∧ 0 ≤ e ∨ b = a + 3 ∧ c = a + 1 ∧ y = d ∧ w = n ∧ e < 0) → Hx (fX5_power_22 σ (x + 18) a (iz e) into (nI e.natAbs) (x + 18) b) (fun σ' _ => cW x (sR x into) 0 0 σ σ' ∧ Gv σ' into (qmk (if s < 0 ∧ e.natAbs % 2 = 1 then -1 else 1) (y ^ e.natAbs) (w ^ e.natAbs))) := by
    intro b c y w hbc
    have hB : Nt σ b y := by rcases hbc with ⟨h1, _, h3, _⟩ | ⟨h1, _, h3, _⟩ <;> rw [h1, h3] <;> assumption
    have hC : Nt σ c w := by rcases hbc with ⟨_, h1, _, h3, _⟩ | ⟨_, h1, _, h3, _⟩ <;> rw [h1, h3] <;> assumption
    have hy : sml (y) 4 := by rcases hbc with ⟨_, _, h3, _⟩ | ⟨_, _, h3, _⟩ <;> rw [h3] <;> assumption
    have hw : sml (w) 4 := by rcases hbc with ⟨_, _, _, h3, _⟩ | ⟨_, _, _, h3, _⟩ <;> rw [h3] <;> assumption
    have hyw : Nat.gcd y w = 1 := by
      rcases hbc with ⟨_, _, h3, h4, _⟩ | ⟨_, _, h3, h4, _⟩ <;> rw [h3, h4]
      · exact hgc
      · rw [Nat.gcd_comm]; exact hgc
    have hw0 : 0 < w := by
      rcases hbc with ⟨_, _, _, h4, _⟩ | ⟨_, _, _, h4, h5⟩ <;> rw [h4]
      · exact hq.2.2.1
      · apply Nat.pos_of_ne_zero
        intro q
        exact h0 ⟨hq.2.1.mpr q, h5⟩
    rw [n_fX5_power_22]
    have hG := cW.rf (S := (sR x into)) hp
    (try simp (disch := first | assumption | omega) only [sm_bind, sm_cb, sm_nm, ↓reduceIte, xf_9_0 hx, xf_9_1 hx, xf_9_2 hx, xf_9_3 hx, xf_9_4 hx, xf_9_5 hx, xf_9_6 hx, xf_9_7 hx, xf_9_8 hx, xf_9_9 hx, xf_9_10 hx, xf_9_11 hx, xf_9_12 hx, xf_9_13 hx, xf_9_14 hx, xf_9_15 hx, xf_9_16 hx, xf_5_1_45 hx, xf_5_2_45 hx, xf_5_1_50 hx, xf_5_2_50 hx, xf_5_1_55 hx, xf_5_2_55 hx, xf_5_1_60 hx, xf_5_2_60 hx, xk_18 hx, xk_19 hx, xk_21 hx, xk_23 hx, xk_25 hx, xk_27 hx, xk_29 hx, xk_31 hx, xk_33 hx, xk_35 hx, xk_37 hx, xk_39 hx, xk_41 hx, xk_43 hx, xk_45 hx, xk_46 hx, xk_48 hx, xk_50 hx, xk_51 hx, xk_53 hx, xk_55 hx, xk_56 hx, xk_58 hx, xk_60 hx, xk_61 hx, xk_63 hx, sgA.2, fx_n fsA, fx_d fsA, fx_i fsA, fx_p fsA, fx_k fsA, fx_kn fsA, fx_kd fsA, fx_n fsI, fx_d fsI, fx_i fsI, fx_p fsI, fx_k fsI, fx_kn fsI, fx_kd fsI, nb0, nb1])
    rw [n_fX5_multiplyOften]
    refine Hx.bd (Q := fun σ' _ => cW x (s2 (into + 1) (x + 37)) 0 0 σ σ' ∧ ∃ i, i ≤ e.natAbs ∧ Nt σ' (into + 1) (y ^ i) ∧ sml (y ^ i) 8 ∧ (i = e.natAbs ∨ dig30 ≤ y ^ i)) ?_ ?_
    · (try simp (disch := first | assumption | omega) only [sm_bind, sm_cb, sm_nm, ↓reduceIte, xf_9_0 hx, xf_9_1 hx, xf_9_2 hx, xf_9_3 hx, xf_9_4 hx, xf_9_5 hx, xf_9_6 hx, xf_9_7 hx, xf_9_8 hx, xf_9_9 hx, xf_9_10 hx, xf_9_11 hx, xf_9_12 hx, xf_9_13 hx, xf_9_14 hx, xf_9_15 hx, xf_9_16 hx, xf_5_1_45 hx, xf_5_2_45 hx, xf_5_1_50 hx, xf_5_2_50 hx, xf_5_1_55 hx, xf_5_2_55 hx, xf_5_1_60 hx, xf_5_2_60 hx, xk_18 hx, xk_19 hx, xk_21 hx, xk_23 hx, xk_25 hx, xk_27 hx, xk_29 hx, xk_31 hx, xk_33 hx, xk_35 hx, xk_37 hx, xk_39 hx, xk_41 hx, xk_43 hx, xk_45 hx, xk_46 hx, xk_48 hx, xk_50 hx, xk_51 hx, xk_53 hx, xk_55 hx, xk_56 hx, xk_58 hx, xk_60 hx, xk_61 hx, xk_63 hx, sgA.2, fx_n fsA, fx_d fsA, fx_i fsA, fx_p fsA, fx_k fsA, fx_kn fsA, fx_kd fsA, fx_n fsI, fx_d fsI, fx_i fsI, fx_p fsI, fx_k fsI, fx_kn fsI, fx_kd fsI, nb0, nb1])
      refine Hx.bd (cw_setSmall (v := 1) hp hZ (by omega)) (fun σ1 v1 h1 => ?_)
      obtain ⟨hF1, hZ⟩ := h1
      have hp1 := hF1.hp
      have hx1 := hx.kW hF1
      have hG1 := hG.tr0 hF1 (fun r _ hr => by simp only [s1, s2, s3, sG, sR, sRc] at hr ⊢; omega)
      replace fsA := fsA.kW hF1
      replace fsI := fsI.kW hF1
      try replace sgA := sgA.kW hF1 (by first | (simp only [s1, s2, s3, sG, sR, sRc, Nat.add_left_cancel_iff, Nat.reduceEqDiff, or_self, or_false, false_or, not_false_eq_true, Nat.add_le_add_iff_left, Nat.reduceLeDiff, and_false, false_and]; done) | (simp only [s1, s2, s3, sG, sR, sRc]; omega))
      try replace hB := hB.kW hF1 (by first | (simp only [s1, s2, s3, sG, sR, sRc, Nat.add_left_cancel_iff, Nat.reduceEqDiff, or_self, or_false, false_or, not_false_eq_true, Nat.add_le_add_iff_left, Nat.reduceLeDiff, and_false, false_and]; done) | (simp only [s1, s2, s3, sG, sR, sRc]; omega))
      try replace hC := hC.kW hF1 (by first | (simp only [s1, s2, s3, sG, sR, sRc, Nat.add_left_cancel_iff, Nat.reduceEqDiff, or_self, or_false, false_or, not_false_eq_true, Nat.add_le_add_iff_left, Nat.reduceLeDiff, and_false, false_and]; done) | (simp only [s1, s2, s3, sG, sR, sRc]; omega))
      try replace hZ3 := hZ3.kW hF1 (by first | (simp only [s1, s2, s3, sG, sR, sRc, Nat.add_left_cancel_iff, Nat.reduceEqDiff, or_self, or_false, false_or, not_false_eq_true, Nat.add_le_add_iff_left, Nat.reduceLeDiff, and_false, false_and]; done) | (simp only [s1, s2, s3, sG, sR, sRc]; omega))
      (try simp (disch := first | assumption | omega) only [sm_bind, sm_cb, sm_nm, ↓reduceIte, xf_9_0 hx1, xf_9_1 hx1, xf_9_2 hx1, xf_9_3 hx1, xf_9_4 hx1, xf_9_5 hx1, xf_9_6 hx1, xf_9_7 hx1, xf_9_8 hx1, xf_9_9 hx1, xf_9_10 hx1, xf_9_11 hx1, xf_9_12 hx1, xf_9_13 hx1, xf_9_14 hx1, xf_9_15 hx1, xf_9_16 hx1, xf_5_1_45 hx1, xf_5_2_45 hx1, xf_5_1_50 hx1, xf_5_2_50 hx1, xf_5_1_55 hx1, xf_5_2_55 hx1, xf_5_1_60 hx1, xf_5_2_60 hx1, xk_18 hx1, xk_19 hx1, xk_21 hx1, xk_23 hx1, xk_25 hx1, xk_27 hx1, xk_29 hx1, xk_31 hx1, xk_33 hx1, xk_35 hx1, xk_37 hx1, xk_39 hx1, xk_41 hx1, xk_43 hx1, xk_45 hx1, xk_46 hx1, xk_48 hx1, xk_50 hx1, xk_51 hx1, xk_53 hx1, xk_55 hx1, xk_56 hx1, xk_58 hx1, xk_60 hx1, xk_61 hx1, xk_63 hx1, sgA.2, fx_n fsA, fx_d fsA, fx_i fsA, fx_p fsA, fx_k fsA, fx_kn fsA, fx_kd fsA, fx_n fsI, fx_d fsI, fx_i fsI, fx_p fsI, fx_k fsI, fx_kn fsI, fx_kd fsI, nb0, nb1])
      refine Hx.mo (cr_multiplyOften hI (by omega) (by omega) (by omega) hy hk FU σ1 0 hp1 hx1 hB (by rw [Nat.pow_zero]; exact hZ) (Nat.zero_le _) (by show e.natAbs - 0 < 4294967296; omega) (by rw [Nat.pow_zero]; exact lt_bp (sml_lit (show 1 < 1000000000 by omega)) (by omega))) (fun σ2 _ h => ⟨?_, h.2⟩)
      exact (hF1.mo (S' := s2 (into + 1) (x + 37)) (fun r _ hr => by simp only [s1, s2] at hr ⊢; omega) (Nat.le_refl _) (Nat.le_refl _)).tr0 h.1 (fun r _ hr => hr)
    · rintro σ1 _ ⟨hF1, i, hi, hY1, hyi, hie⟩
      have hG1 := hG.tr0 hF1 (fun r _ hr => by simp only [s2, sR] at hr ⊢; omega)
      have hp1 := hF1.hp
      have hx1 := hx.kW hF1
      replace fsA := fsA.kW hF1
      replace fsI := fsI.kW hF1
      replace sgA := sgA.kW hF1 (by simp only [s2]; omega)
      replace hC := hC.kW hF1 (by simp only [s2]; omega)
      replace hZ3 := hZ3.kW hF1 (by simp only [s2]; omega)
      have hfin : Hx (fX5_power_47 σ1 a into (nI e.natAbs) (x + 18) c) (fun σ' _ => cW x (sR x into) 0 0 σ σ' ∧ Gv σ' into (qmk (if s < 0 ∧ e.natAbs % 2 = 1 then -1 else 1) (y ^ e.natAbs) (w ^ e.natAbs))) := by
        rw [n_fX5_power_47]
        simp only [fx_d fsI, sm_bind, xk_18 hx1]
        rw [n_fX5_multiplyOften, sm_ckK hZ3.k8]
        refine Hx.bd (Q := fun σ' _ => cW x (s2 (into + 3) (x + 37)) 0 0 σ1 σ' ∧ ∃ i, i ≤ e.natAbs ∧ Nt σ' (into + 3) (w ^ i) ∧ sml (w ^ i) 8 ∧ (i = e.natAbs ∨ dig30 ≤ w ^ i)) ?_ ?_
        · refine hx_bs ?_
          refine Hx.bd (cw_setSmall (v := 1) hp1 hZ3 (by omega)) (fun σ2 _ h => ?_)
          obtain ⟨hF2, hZ4⟩ := h
          refine Hx.mo (cr_multiplyOften hI3 (by omega) (by omega) (by omega) hw hk FU σ2 0 hF2.hp (hx1.kW hF2) (hC.kW hF2 (by simp only [s1]; omega)) (by rw [Nat.pow_zero]; exact hZ4) (Nat.zero_le _) (by show e.natAbs - 0 < 4294967296; omega) (by rw [Nat.pow_zero]; exact lt_bp (sml_lit (show 1 < 1000000000 by omega)) (by omega))) (fun σ2 _ h => ⟨?_, h.2⟩)
          exact (hF2.mo (S' := s2 (into + 3) (x + 37)) (fun r _ hr => by simp only [s1, s2] at hr ⊢; omega) (Nat.le_refl _) (Nat.le_refl _)).tr0 h.1 (fun r _ hr => hr)
        · rintro σ2 _ ⟨hF2, j, hj, hW1, hwj, hje⟩
          have hG2 := hG1.tr0 hF2 (fun r _ hr => by simp only [s2, sR] at hr ⊢; omega)
          have hp2 := hF2.hp
          replace fsA := fsA.kW hF2
          replace fsI := fsI.kW hF2
          replace sgA := sgA.kW hF2 (by simp only [s2]; omega)
          have hY2 := hY1.kW hF2 (by simp only [s2]; omega)
          have hend : ∀ v : Int, v = (if s < 0 ∧ e.natAbs % 2 = 1 then -1 else 1) → Hx (fX5_power_76 σ2 into (iz v)) (fun σ' _ => cW x (sR x into) 0 0 σ σ' ∧ Gv σ' into (qmk (if s < 0 ∧ e.natAbs % 2 = 1 then -1 else 1) (y ^ e.natAbs) (w ^ e.natAbs))) := by
            intro v hv
            rw [n_fX5_power_76]
            simp only [fx_k fsI, sm_bind]
            refine Hx.bd (cf_setSign hp2 fsI hY2) (fun σ3 _ h => ?_)
            obtain ⟨hF3, hS3⟩ := h
            refine Hx.ret ⟨hG2.tr0 hF3 (fun r _ hr => by simp only [s1, sR] at hr ⊢; omega), _, _, _, ⟨fsI.kW hF3, hS3, hY2.kW hF3 (by simp only [s1]; omega), hW1.kW hF3 (by simp only [s1]; omega)⟩, ?_, ?_, lt_bp hyi (by omega), lt_bp hwj (by omega)⟩
            · have g1 : Nat.gcd (y ^ e.natAbs) (w ^ e.natAbs) = 1 := Nat.pow_gcd_pow_of_gcd_eq_one hyw
              unfold qsm qmk
              simp only [g1, Nat.div_one]
              constructor
              · rintro ⟨q1, q2⟩
                rcases hie with h | h
                · rcases hje with h' | h'
                  · rw [h] at q1; rw [h'] at q2; exact ⟨q1, q2⟩
                  · omega
                · omega
              · rintro ⟨q1, q2⟩
                refine ⟨?_, ?_⟩
                · apply Nat.lt_of_not_le
                  intro q
                  have := pow_up hi q
                  omega
                · apply Nat.lt_of_not_le
                  intro q
                  have := pow_up hj q
                  omega
            · rintro ⟨q1, q2⟩
              have e1 : i = e.natAbs := by omega
              have e2 : j = e.natAbs := by omega
              have g1 : Nat.gcd (y ^ e.natAbs) (w ^ e.natAbs) = 1 := Nat.pow_gcd_pow_of_gcd_eq_one hyw
              unfold qmk
              rw [g1, Nat.div_one, Nat.div_one, e1, e2, hv]
          have hle : (nI 0 ≤ iz s) = (0 ≤ s) := by rw [show nI 0 = iz (0 : Int) from rfl, iz_le (by omega) (by omega) (by omega) (by omega)]
          have hmd : (nI e.natAbs - nI e.natAbs / nI 2 * nI 2 = nI 0) = (e.natAbs % 2 = 0) := by rw [sm_mod (by omega) (by omega) (by omega), sm_eq (by omega) (by omega)]
          simp only [fx_i fsA, sgA.2, sm_bind, hle, hmd]
          refine Hx.cs (fun c1 => ?_) (fun c1 => ?_)
          · rw [n_fX5_power_75]
            exact hend 1 (by rw [if_neg (by omega)])
          · refine Hx.cs (fun c2 => ?_) (fun c2 => ?_)
            · rw [n_fX5_power_75]
              exact hend 1 (by rw [if_neg (by omega)])
            · exact hend (-1) (by rw [if_pos (by omega)])
      simp only [ele]
      refine Hx.cs (fun c1 => ?_) (fun c1 => ?_)
      · simp only [fx_d fsA, sm_bind]
        rcases hbc with ⟨_, h2, _⟩ | ⟨_, _, _, _, h5⟩
        · rw [← h2]; exact hfin
        · omega
      · simp only [fx_n fsA, sm_bind]
        rcases hbc with ⟨_, _, _, _, h5⟩ | ⟨_, h2, _⟩
        · omega
        · rw [← h2]; exact hfin
  rw [n_fX5_power, eab]
  refine hx_nm ?_
  simp only [ele]
  unfold pwb pwc
  refine Hx.cs (fun c => ?_) (fun c => ?_)
  · rw [fx_n fsA]
    refine hx_bs ?_
    simp only [if_neg (show ¬ e < 0 by omega)]
    exact hgo _ _ _ _ (Or.inl ⟨rfl, rfl, rfl, rfl, c⟩)
  · rw [fx_d fsA]
    refine hx_bs ?_
    simp only [if_pos (show e < 0 by omega)]
    exact hgo _ _ _ _ (Or.inr ⟨rfl, rfl, rfl, rfl, by omega⟩)
