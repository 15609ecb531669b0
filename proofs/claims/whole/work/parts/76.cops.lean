/-! ===== the class' Reckoner: the other steps ===== -/
theorem cf_setWhole {x a b y n0 d0 : Nat} {s : Int} {σ : St} (hp : HP (PX x) σ) (fsA : FS σ a) (hN : Nt σ (a + 1) n0) (hD : Nt σ (a + 3) d0) (hB : Nt σ b y) (hba : b ≠ a ∧ b ≠ a + 1 ∧ b ≠ a + 3) (hr : rm (PX x) σ (a + 1) y) (hy : sml (y) 1000) :
    Hx (fX1_setWhole σ a b (iz s)) (fun σ' _ => cW x (s3 a (a + 1) (a + 3)) 0 0 σ σ' ∧ FX σ' a (if y = 0 then 0 else s) y 1) := by
  rw [n_fX1_setWhole]
  simp only [fx_n fsA, sm_bind, fx_kn fsA]
  refine Hx.bd (cw_setTo hp hN hB hr hy) (fun σ1 _ h => ?_)
  obtain ⟨hF1, hN1⟩ := h
  have fs1 := fsA.kW hF1
  have hD1 := hD.kW hF1 (by simp only [s1]; omega)
  simp only [fx_d fs1, sm_bind, fx_kd fs1]
  refine Hx.bd (cw_setSmall hF1.hp hD1 (by omega)) (fun σ2 _ h => ?_)
  obtain ⟨hF2, hD2⟩ := h
  have fs2 := fs1.kW hF2
  have hN2 := hN1.kW hF2 (by simp only [s1]; omega)
  simp only [fx_k fs2, sm_bind]
  refine Hx.bd (cf_setSign hF2.hp fs2 hN2) (fun σ3 _ h => ?_)
  obtain ⟨hF3, hS⟩ := h
  refine Hx.ret ⟨?_, fs2.kW hF3, hS, hN2.kW hF3 (by simp only [s1]; omega), hD2.kW hF3 (by simp only [s1]; omega)⟩
  exact ((hF1.mo (fun r _ hr => by simp only [s1, s3] at hr ⊢; omega) (Nat.le_refl _) (Nat.le_refl _)).tr0 hF2 (fun r _ hr => by simp only [s1, s3] at hr ⊢; omega)).tr0 hF3 (fun r _ hr => by simp only [s1, s3] at hr ⊢; omega)
theorem cr_inverse {x b n d : Nat} {s : Int} {σ : St} (hp : HP (PX x) σ) (hx : XS σ x) (hB : FX σ b s n d) (hbx : x + 40 < b ∨ b + 3 < x + 19) (hb : x + 45 ≠ b) (hn : sml (n) 1000) (hd : sml (d) 1000) :
    Hx (fX5_inverse σ (x + 18) b) (fun σ' v => cW x (s3 (x + 45) (x + 46) (x + 48)) 0 0 σ σ' ∧ v = x + 45 ∧ FX σ' (x + 45) s d n) := by
  obtain ⟨fsB, sgB, hN, hD⟩ := hB
  have fsT := hx.fs 45 (by omega)
  have nb := fsT.ne fsB hb
  obtain ⟨z1, hZ⟩ := hp.2 (x + 46) (by simp)
  obtain ⟨z2, hW⟩ := hp.2 (x + 48) (by simp)
  rw [n_fX5_inverse]
  have hG := cW.rf (S := (s3 (x + 45) (x + 46) (x + 48))) hp
  (try simp (disch := first | assumption | omega) only [sm_bind, sm_cb, sm_nm, ↓reduceIte, xf_9_0 hx, xf_9_1 hx, xf_9_2 hx, xf_9_3 hx, xf_9_4 hx, xf_9_5 hx, xf_9_6 hx, xf_9_7 hx, xf_9_8 hx, xf_9_9 hx, xf_9_10 hx, xf_9_11 hx, xf_9_12 hx, xf_9_13 hx, xf_9_14 hx, xf_9_15 hx, xf_9_16 hx, xf_5_1_45 hx, xf_5_2_45 hx, xf_5_1_50 hx, xf_5_2_50 hx, xf_5_1_55 hx, xf_5_2_55 hx, xf_5_1_60 hx, xf_5_2_60 hx, xk_18 hx, xk_19 hx, xk_21 hx, xk_23 hx, xk_25 hx, xk_27 hx, xk_29 hx, xk_31 hx, xk_33 hx, xk_35 hx, xk_37 hx, xk_39 hx, xk_41 hx, xk_43 hx, xk_45 hx, xk_46 hx, xk_48 hx, xk_50 hx, xk_51 hx, xk_53 hx, xk_55 hx, xk_56 hx, xk_58 hx, xk_60 hx, xk_61 hx, xk_63 hx, sgB.2, fx_n fsB, fx_d fsB, fx_i fsB, fx_p fsB, fx_k fsB, fx_kn fsB, fx_kd fsB, fx_n fsT, fx_d fsT, fx_i fsT, fx_p fsT, fx_k fsT, fx_kn fsT, fx_kd fsT, nb0, nb1])
  refine Hx.bd (cw_setTo hp hZ hD (Or.inl (by simp)) hd) (fun σ1 v1 h1 => ?_)
  obtain ⟨hF1, hQ⟩ := h1
  have hp1 := hF1.hp
  have hx1 := hx.kW hF1
  have hG1 := hG.tr0 hF1 (fun r _ hr => by simp only [s1, s2, s3, sG, sR, sRc] at hr ⊢; omega)
  replace fsB := fsB.kW hF1
  replace fsT := fsT.kW hF1
  try replace sgB := sgB.kW hF1 (by first | (simp only [s1, s2, s3, sG, sR, sRc, Nat.add_left_cancel_iff, Nat.reduceEqDiff, or_self, or_false, false_or, not_false_eq_true, Nat.add_le_add_iff_left, Nat.reduceLeDiff, and_false, false_and]; done) | (simp only [s1, s2, s3, sG, sR, sRc]; omega))
  try replace hN := hN.kW hF1 (by first | (simp only [s1, s2, s3, sG, sR, sRc, Nat.add_left_cancel_iff, Nat.reduceEqDiff, or_self, or_false, false_or, not_false_eq_true, Nat.add_le_add_iff_left, Nat.reduceLeDiff, and_false, false_and]; done) | (simp only [s1, s2, s3, sG, sR, sRc]; omega))
  try replace hD := hD.kW hF1 (by first | (simp only [s1, s2, s3, sG, sR, sRc, Nat.add_left_cancel_iff, Nat.reduceEqDiff, or_self, or_false, false_or, not_false_eq_true, Nat.add_le_add_iff_left, Nat.reduceLeDiff, and_false, false_and]; done) | (simp only [s1, s2, s3, sG, sR, sRc]; omega))
  try replace hZ := hZ.kW hF1 (by first | (simp only [s1, s2, s3, sG, sR, sRc, Nat.add_left_cancel_iff, Nat.reduceEqDiff, or_self, or_false, false_or, not_false_eq_true, Nat.add_le_add_iff_left, Nat.reduceLeDiff, and_false, false_and]; done) | (simp only [s1, s2, s3, sG, sR, sRc]; omega))
  try replace hW := hW.kW hF1 (by first | (simp only [s1, s2, s3, sG, sR, sRc, Nat.add_left_cancel_iff, Nat.reduceEqDiff, or_self, or_false, false_or, not_false_eq_true, Nat.add_le_add_iff_left, Nat.reduceLeDiff, and_false, false_and]; done) | (simp only [s1, s2, s3, sG, sR, sRc]; omega))
  (try simp (disch := first | assumption | omega) only [sm_bind, sm_cb, sm_nm, ↓reduceIte, xf_9_0 hx1, xf_9_1 hx1, xf_9_2 hx1, xf_9_3 hx1, xf_9_4 hx1, xf_9_5 hx1, xf_9_6 hx1, xf_9_7 hx1, xf_9_8 hx1, xf_9_9 hx1, xf_9_10 hx1, xf_9_11 hx1, xf_9_12 hx1, xf_9_13 hx1, xf_9_14 hx1, xf_9_15 hx1, xf_9_16 hx1, xf_5_1_45 hx1, xf_5_2_45 hx1, xf_5_1_50 hx1, xf_5_2_50 hx1, xf_5_1_55 hx1, xf_5_2_55 hx1, xf_5_1_60 hx1, xf_5_2_60 hx1, xk_18 hx1, xk_19 hx1, xk_21 hx1, xk_23 hx1, xk_25 hx1, xk_27 hx1, xk_29 hx1, xk_31 hx1, xk_33 hx1, xk_35 hx1, xk_37 hx1, xk_39 hx1, xk_41 hx1, xk_43 hx1, xk_45 hx1, xk_46 hx1, xk_48 hx1, xk_50 hx1, xk_51 hx1, xk_53 hx1, xk_55 hx1, xk_56 hx1, xk_58 hx1, xk_60 hx1, xk_61 hx1, xk_63 hx1, sgB.2, fx_n fsB, fx_d fsB, fx_i fsB, fx_p fsB, fx_k fsB, fx_kn fsB, fx_kd fsB, fx_n fsT, fx_d fsT, fx_i fsT, fx_p fsT, fx_k fsT, fx_kn fsT, fx_kd fsT, nb0, nb1])
  refine Hx.bd (cw_setTo hp1 hW hN (Or.inl (by simp)) hn) (fun σ2 v2 h2 => ?_)
  obtain ⟨hF2, hR⟩ := h2
  have hp2 := hF2.hp
  have hx2 := hx1.kW hF2
  have hG2 := hG1.tr0 hF2 (fun r _ hr => by simp only [s1, s2, s3, sG, sR, sRc] at hr ⊢; omega)
  replace fsB := fsB.kW hF2
  replace fsT := fsT.kW hF2
  try replace sgB := sgB.kW hF2 (by first | (simp only [s1, s2, s3, sG, sR, sRc, Nat.add_left_cancel_iff, Nat.reduceEqDiff, or_self, or_false, false_or, not_false_eq_true, Nat.add_le_add_iff_left, Nat.reduceLeDiff, and_false, false_and]; done) | (simp only [s1, s2, s3, sG, sR, sRc]; omega))
  try replace hN := hN.kW hF2 (by first | (simp only [s1, s2, s3, sG, sR, sRc, Nat.add_left_cancel_iff, Nat.reduceEqDiff, or_self, or_false, false_or, not_false_eq_true, Nat.add_le_add_iff_left, Nat.reduceLeDiff, and_false, false_and]; done) | (simp only [s1, s2, s3, sG, sR, sRc]; omega))
  try replace hD := hD.kW hF2 (by first | (simp only [s1, s2, s3, sG, sR, sRc, Nat.add_left_cancel_iff, Nat.reduceEqDiff, or_self, or_false, false_or, not_false_eq_true, Nat.add_le_add_iff_left, Nat.reduceLeDiff, and_false, false_and]; done) | (simp only [s1, s2, s3, sG, sR, sRc]; omega))
  try replace hZ := hZ.kW hF2 (by first | (simp only [s1, s2, s3, sG, sR, sRc, Nat.add_left_cancel_iff, Nat.reduceEqDiff, or_self, or_false, false_or, not_false_eq_true, Nat.add_le_add_iff_left, Nat.reduceLeDiff, and_false, false_and]; done) | (simp only [s1, s2, s3, sG, sR, sRc]; omega))
  try replace hW := hW.kW hF2 (by first | (simp only [s1, s2, s3, sG, sR, sRc, Nat.add_left_cancel_iff, Nat.reduceEqDiff, or_self, or_false, false_or, not_false_eq_true, Nat.add_le_add_iff_left, Nat.reduceLeDiff, and_false, false_and]; done) | (simp only [s1, s2, s3, sG, sR, sRc]; omega))
  try replace hQ := hQ.kW hF2 (by first | (simp only [s1, s2, s3, sG, sR, sRc, Nat.add_left_cancel_iff, Nat.reduceEqDiff, or_self, or_false, false_or, not_false_eq_true, Nat.add_le_add_iff_left, Nat.reduceLeDiff, and_false, false_and]; done) | (simp only [s1, s2, s3, sG, sR, sRc]; omega))
  (try simp (disch := first | assumption | omega) only [sm_bind, sm_cb, sm_nm, ↓reduceIte, xf_9_0 hx2, xf_9_1 hx2, xf_9_2 hx2, xf_9_3 hx2, xf_9_4 hx2, xf_9_5 hx2, xf_9_6 hx2, xf_9_7 hx2, xf_9_8 hx2, xf_9_9 hx2, xf_9_10 hx2, xf_9_11 hx2, xf_9_12 hx2, xf_9_13 hx2, xf_9_14 hx2, xf_9_15 hx2, xf_9_16 hx2, xf_5_1_45 hx2, xf_5_2_45 hx2, xf_5_1_50 hx2, xf_5_2_50 hx2, xf_5_1_55 hx2, xf_5_2_55 hx2, xf_5_1_60 hx2, xf_5_2_60 hx2, xk_18 hx2, xk_19 hx2, xk_21 hx2, xk_23 hx2, xk_25 hx2, xk_27 hx2, xk_29 hx2, xk_31 hx2, xk_33 hx2, xk_35 hx2, xk_37 hx2, xk_39 hx2, xk_41 hx2, xk_43 hx2, xk_45 hx2, xk_46 hx2, xk_48 hx2, xk_50 hx2, xk_51 hx2, xk_53 hx2, xk_55 hx2, xk_56 hx2, xk_58 hx2, xk_60 hx2, xk_61 hx2, xk_63 hx2, sgB.2, fx_n fsB, fx_d fsB, fx_i fsB, fx_p fsB, fx_k fsB, fx_kn fsB, fx_kd fsB, fx_n fsT, fx_d fsT, fx_i fsT, fx_p fsT, fx_k fsT, fx_kn fsT, fx_kd fsT, nb0, nb1])
  have k6 : sK σ2 (x + 45) = 6 := fsT.1
  have hF3 := cWi (f := fid 5 0) (v := iz s) hp2 (show sK σ2 (x + 45) ≠ 8 by omega) (show sK σ2 (x + 45) ≠ 100 by omega)
  have hx3 := hx2.kW hF3
  have e := xf_9_13 hx3
  rw [e]
  exact Hx.ret ⟨hG2.tr0 hF3 (fun r _ hr => by simp only [s1, s3] at hr ⊢; omega), rfl, fsT.kW hF3, SgI k6, hQ.kW hF3 (by simp only [s1]; omega), hR.kW hF3 (by simp only [s1]; omega)⟩
theorem cr_order {x a b n d n' d' : Nat} {s t : Int} {σ : St} (hp : HP (PX x) σ) (hx : XS σ x) (hA : FX σ a s n d) (hB : FX σ b t n' d') (hax : x + 40 < a ∨ a + 3 < x + 19) (hbx : x + 40 < b ∨ b + 3 < x + 19)
    (hn : sml (n) 200) (hd : sml (d) 200) (hn' : sml (n') 200) (hd' : sml (d') 200) (hs : -1 ≤ s ∧ s ≤ 1) (ht : -1 ≤ t ∧ t ≤ 1) :
    Hx (fX5_order σ (x + 18) a b) (fun σ' v => cW x (s2 (x + 37) (x + 39)) 0 0 σ σ' ∧ v = iz (cmpq (s, n, d) (t, n', d'))) := by
  obtain ⟨fsA, sgA, hN, hD⟩ := hA
  obtain ⟨fsB, sgB, hM, hE⟩ := hB
  rw [n_fX5_order]
  have hG := cW.rf (S := (s2 (x + 37) (x + 39))) hp
  have sgA0 := sgA
  have ksgA : ¬ (s2 (x + 37) (x + 39)) (a) := (by first | (simp only [s1, s2, s3, sG, sR, sRc, Nat.add_left_cancel_iff, Nat.reduceEqDiff, or_self, or_false, false_or, not_false_eq_true, Nat.add_le_add_iff_left, Nat.reduceLeDiff, and_false, false_and]; done) | (simp only [s1, s2, s3, sG, sR, sRc]; omega))
  have sgB0 := sgB
  have ksgB : ¬ (s2 (x + 37) (x + 39)) (b) := (by first | (simp only [s1, s2, s3, sG, sR, sRc, Nat.add_left_cancel_iff, Nat.reduceEqDiff, or_self, or_false, false_or, not_false_eq_true, Nat.add_le_add_iff_left, Nat.reduceLeDiff, and_false, false_and]; done) | (simp only [s1, s2, s3, sG, sR, sRc]; omega))
  have hN0 := hN
  have khN : ¬ (s2 (x + 37) (x + 39)) ((a + 1)) := (by first | (simp only [s1, s2, s3, sG, sR, sRc, Nat.add_left_cancel_iff, Nat.reduceEqDiff, or_self, or_false, false_or, not_false_eq_true, Nat.add_le_add_iff_left, Nat.reduceLeDiff, and_false, false_and]; done) | (simp only [s1, s2, s3, sG, sR, sRc]; omega))
  have hD0 := hD
  have khD : ¬ (s2 (x + 37) (x + 39)) ((a + 3)) := (by first | (simp only [s1, s2, s3, sG, sR, sRc, Nat.add_left_cancel_iff, Nat.reduceEqDiff, or_self, or_false, false_or, not_false_eq_true, Nat.add_le_add_iff_left, Nat.reduceLeDiff, and_false, false_and]; done) | (simp only [s1, s2, s3, sG, sR, sRc]; omega))
  have hM0 := hM
  have khM : ¬ (s2 (x + 37) (x + 39)) ((b + 1)) := (by first | (simp only [s1, s2, s3, sG, sR, sRc, Nat.add_left_cancel_iff, Nat.reduceEqDiff, or_self, or_false, false_or, not_false_eq_true, Nat.add_le_add_iff_left, Nat.reduceLeDiff, and_false, false_and]; done) | (simp only [s1, s2, s3, sG, sR, sRc]; omega))
  have hE0 := hE
  have khE : ¬ (s2 (x + 37) (x + 39)) ((b + 3)) := (by first | (simp only [s1, s2, s3, sG, sR, sRc, Nat.add_left_cancel_iff, Nat.reduceEqDiff, or_self, or_false, false_or, not_false_eq_true, Nat.add_le_add_iff_left, Nat.reduceLeDiff, and_false, false_and]; done) | (simp only [s1, s2, s3, sG, sR, sRc]; omega))
  (try simp (disch := first | assumption | omega) only [sm_bind, sm_cb, sm_nm, ↓reduceIte, xf_9_0 hx, xf_9_1 hx, xf_9_2 hx, xf_9_3 hx, xf_9_4 hx, xf_9_5 hx, xf_9_6 hx, xf_9_7 hx, xf_9_8 hx, xf_9_9 hx, xf_9_10 hx, xf_9_11 hx, xf_9_12 hx, xf_9_13 hx, xf_9_14 hx, xf_9_15 hx, xf_9_16 hx, xf_5_1_45 hx, xf_5_2_45 hx, xf_5_1_50 hx, xf_5_2_50 hx, xf_5_1_55 hx, xf_5_2_55 hx, xf_5_1_60 hx, xf_5_2_60 hx, xk_18 hx, xk_19 hx, xk_21 hx, xk_23 hx, xk_25 hx, xk_27 hx, xk_29 hx, xk_31 hx, xk_33 hx, xk_35 hx, xk_37 hx, xk_39 hx, xk_41 hx, xk_43 hx, xk_45 hx, xk_46 hx, xk_48 hx, xk_50 hx, xk_51 hx, xk_53 hx, xk_55 hx, xk_56 hx, xk_58 hx, xk_60 hx, xk_61 hx, xk_63 hx, sgA.2, sgB.2, fx_n fsA, fx_d fsA, fx_i fsA, fx_p fsA, fx_k fsA, fx_kn fsA, fx_kd fsA, fx_n fsB, fx_d fsB, fx_i fsB, fx_p fsB, fx_k fsB, fx_kn fsB, fx_kd fsB, nb0, nb1])
  refine Hx.cs (fun c => ?_) (fun c => ?_)
  · rw [iz_eq (by omega) (by omega) (by omega) (by omega)] at c
    (try simp (disch := first | assumption | omega) only [sm_bind, sm_cb, sm_nm, ↓reduceIte, xf_9_0 hx, xf_9_1 hx, xf_9_2 hx, xf_9_3 hx, xf_9_4 hx, xf_9_5 hx, xf_9_6 hx, xf_9_7 hx, xf_9_8 hx, xf_9_9 hx, xf_9_10 hx, xf_9_11 hx, xf_9_12 hx, xf_9_13 hx, xf_9_14 hx, xf_9_15 hx, xf_9_16 hx, xf_5_1_45 hx, xf_5_2_45 hx, xf_5_1_50 hx, xf_5_2_50 hx, xf_5_1_55 hx, xf_5_2_55 hx, xf_5_1_60 hx, xf_5_2_60 hx, xk_18 hx, xk_19 hx, xk_21 hx, xk_23 hx, xk_25 hx, xk_27 hx, xk_29 hx, xk_31 hx, xk_33 hx, xk_35 hx, xk_37 hx, xk_39 hx, xk_41 hx, xk_43 hx, xk_45 hx, xk_46 hx, xk_48 hx, xk_50 hx, xk_51 hx, xk_53 hx, xk_55 hx, xk_56 hx, xk_58 hx, xk_60 hx, xk_61 hx, xk_63 hx, sgA.2, sgB.2, fx_n fsA, fx_d fsA, fx_i fsA, fx_p fsA, fx_k fsA, fx_kn fsA, fx_kd fsA, fx_n fsB, fx_d fsB, fx_i fsB, fx_p fsB, fx_k fsB, fx_kn fsB, fx_kd fsB, nb0, nb1])
    refine Hx.bd (cw_setProduct hp hN hE (show x + 37 ∈ PX x by simp) (by omega) (by omega) (lt_bp hn (by omega)) (lt_bp hd' (by omega))) (fun σ1 v1 h1 => ?_)
    obtain ⟨hF1, hL⟩ := h1
    have hp1 := hF1.hp
    have hx1 := hx.kW hF1
    have hG1 := hG.tr0 hF1 (fun r _ hr => by simp only [s1, s2, s3, sG, sR, sRc] at hr ⊢; omega)
    replace fsA := fsA.kW hF1
    replace fsB := fsB.kW hF1
    have sgA := sgA0.kW hG1 ksgA
    have sgB := sgB0.kW hG1 ksgB
    have hN := hN0.kW hG1 khN
    have hD := hD0.kW hG1 khD
    have hM := hM0.kW hG1 khM
    have hE := hE0.kW hG1 khE
    (try simp (disch := first | assumption | omega) only [sm_bind, sm_cb, sm_nm, ↓reduceIte, xf_9_0 hx1, xf_9_1 hx1, xf_9_2 hx1, xf_9_3 hx1, xf_9_4 hx1, xf_9_5 hx1, xf_9_6 hx1, xf_9_7 hx1, xf_9_8 hx1, xf_9_9 hx1, xf_9_10 hx1, xf_9_11 hx1, xf_9_12 hx1, xf_9_13 hx1, xf_9_14 hx1, xf_9_15 hx1, xf_9_16 hx1, xf_5_1_45 hx1, xf_5_2_45 hx1, xf_5_1_50 hx1, xf_5_2_50 hx1, xf_5_1_55 hx1, xf_5_2_55 hx1, xf_5_1_60 hx1, xf_5_2_60 hx1, xk_18 hx1, xk_19 hx1, xk_21 hx1, xk_23 hx1, xk_25 hx1, xk_27 hx1, xk_29 hx1, xk_31 hx1, xk_33 hx1, xk_35 hx1, xk_37 hx1, xk_39 hx1, xk_41 hx1, xk_43 hx1, xk_45 hx1, xk_46 hx1, xk_48 hx1, xk_50 hx1, xk_51 hx1, xk_53 hx1, xk_55 hx1, xk_56 hx1, xk_58 hx1, xk_60 hx1, xk_61 hx1, xk_63 hx1, sgA.2, sgB.2, fx_n fsA, fx_d fsA, fx_i fsA, fx_p fsA, fx_k fsA, fx_kn fsA, fx_kd fsA, fx_n fsB, fx_d fsB, fx_i fsB, fx_p fsB, fx_k fsB, fx_kn fsB, fx_kd fsB, nb0, nb1])
    refine Hx.bd (cw_setProduct hp1 hM hD (show x + 39 ∈ PX x by simp) (by omega) (by omega) (lt_bp hn' (by omega)) (lt_bp hd (by omega))) (fun σ2 v2 h2 => ?_)
    obtain ⟨hF2, hR⟩ := h2
    have hp2 := hF2.hp
    have hx2 := hx1.kW hF2
    have hG2 := hG1.tr0 hF2 (fun r _ hr => by simp only [s1, s2, s3, sG, sR, sRc] at hr ⊢; omega)
    replace fsA := fsA.kW hF2
    replace fsB := fsB.kW hF2
    have sgA := sgA0.kW hG2 ksgA
    have sgB := sgB0.kW hG2 ksgB
    have hN := hN0.kW hG2 khN
    have hD := hD0.kW hG2 khD
    have hM := hM0.kW hG2 khM
    have hE := hE0.kW hG2 khE
    try replace hL := hL.kW hF2 (by first | (simp only [s1, s2, s3, sG, sR, sRc, Nat.add_left_cancel_iff, Nat.reduceEqDiff, or_self, or_false, false_or, not_false_eq_true, Nat.add_le_add_iff_left, Nat.reduceLeDiff, and_false, false_and]; done) | (simp only [s1, s2, s3, sG, sR, sRc]; omega))
    (try simp (disch := first | assumption | omega) only [sm_bind, sm_cb, sm_nm, ↓reduceIte, xf_9_0 hx2, xf_9_1 hx2, xf_9_2 hx2, xf_9_3 hx2, xf_9_4 hx2, xf_9_5 hx2, xf_9_6 hx2, xf_9_7 hx2, xf_9_8 hx2, xf_9_9 hx2, xf_9_10 hx2, xf_9_11 hx2, xf_9_12 hx2, xf_9_13 hx2, xf_9_14 hx2, xf_9_15 hx2, xf_9_16 hx2, xf_5_1_45 hx2, xf_5_2_45 hx2, xf_5_1_50 hx2, xf_5_2_50 hx2, xf_5_1_55 hx2, xf_5_2_55 hx2, xf_5_1_60 hx2, xf_5_2_60 hx2, xk_18 hx2, xk_19 hx2, xk_21 hx2, xk_23 hx2, xk_25 hx2, xk_27 hx2, xk_29 hx2, xk_31 hx2, xk_33 hx2, xk_35 hx2, xk_37 hx2, xk_39 hx2, xk_41 hx2, xk_43 hx2, xk_45 hx2, xk_46 hx2, xk_48 hx2, xk_50 hx2, xk_51 hx2, xk_53 hx2, xk_55 hx2, xk_56 hx2, xk_58 hx2, xk_60 hx2, xk_61 hx2, xk_63 hx2, sgA.2, sgB.2, fx_n fsA, fx_d fsA, fx_i fsA, fx_p fsA, fx_k fsA, fx_kn fsA, fx_kd fsA, fx_n fsB, fx_d fsB, fx_i fsB, fx_p fsB, fx_k fsB, fx_kn fsB, fx_kd fsB, nb0, nb1, cn_against hL hR])
    refine Hx.ret ⟨hG2, ?_⟩
    rw [iz_mul]
    unfold cmpq
    simp only
    rw [if_pos c, Int.mul_comm]
  · rw [iz_eq (by omega) (by omega) (by omega) (by omega)] at c
    (try simp (disch := first | assumption | omega) only [sm_bind, sm_cb, sm_nm, ↓reduceIte, xf_9_0 hx, xf_9_1 hx, xf_9_2 hx, xf_9_3 hx, xf_9_4 hx, xf_9_5 hx, xf_9_6 hx, xf_9_7 hx, xf_9_8 hx, xf_9_9 hx, xf_9_10 hx, xf_9_11 hx, xf_9_12 hx, xf_9_13 hx, xf_9_14 hx, xf_9_15 hx, xf_9_16 hx, xf_5_1_45 hx, xf_5_2_45 hx, xf_5_1_50 hx, xf_5_2_50 hx, xf_5_1_55 hx, xf_5_2_55 hx, xf_5_1_60 hx, xf_5_2_60 hx, xk_18 hx, xk_19 hx, xk_21 hx, xk_23 hx, xk_25 hx, xk_27 hx, xk_29 hx, xk_31 hx, xk_33 hx, xk_35 hx, xk_37 hx, xk_39 hx, xk_41 hx, xk_43 hx, xk_45 hx, xk_46 hx, xk_48 hx, xk_50 hx, xk_51 hx, xk_53 hx, xk_55 hx, xk_56 hx, xk_58 hx, xk_60 hx, xk_61 hx, xk_63 hx, sgA.2, sgB.2, fx_n fsA, fx_d fsA, fx_i fsA, fx_p fsA, fx_k fsA, fx_kn fsA, fx_kd fsA, fx_n fsB, fx_d fsB, fx_i fsB, fx_p fsB, fx_k fsB, fx_kn fsB, fx_kd fsB, nb0, nb1])
    refine Hx.cs (fun c2 => ?_) (fun c2 => ?_)
    · rw [iz_le (by omega) (by omega) (by omega) (by omega)] at c2
      refine Hx.ret ⟨hG, ?_⟩
      unfold cmpq
      simp only
      rw [if_neg c, if_pos c2]
      rfl
    · rw [iz_le (by omega) (by omega) (by omega) (by omega)] at c2
      refine Hx.ret ⟨hG, ?_⟩
      unfold cmpq
      simp only
      rw [if_neg c, if_neg c2]
theorem cr_remain {x a b into n d n' d' : Nat} {s t : Int} {σ : St} (hp : HP (PX x) σ) (hx : XS σ x) (hA : FX σ a s n d) (hB : FX σ b t n' d') (fsI : FS σ into) (hI : into + 1 ∈ PX x) (hI3 : into + 3 ∈ PX x) (hia : into ≠ a) (hib : into ≠ b) (hax : x + 40 < a ∨ a + 3 < x + 19) (hbx : x + 40 < b ∨ b + 3 < x + 19) (hix : x + 40 < into)
    (hn : sml (n) 200) (hd : sml (d) 200) (hn' : sml (n') 200) (hd' : sml (d') 200) (hs : -1 ≤ s ∧ s ≤ 1) (ht : -1 ≤ t ∧ t ≤ 1) (h0 : 0 < n') (h0d : 0 < d) (hsn : s = 0 → n = 0) (htn : t ≠ 0) (r N : Nat) (hr : r = n * d' % (n' * d)) (hNe : N = if r ≠ 0 ∧ s ≠ t then n' * d - r else r) :
    Hx (fX5_remain σ (x + 18) a b into) (fun σ' _ => cW x (sR x into) 0 0 σ σ' ∧ FX σ' into (if N = 0 then 0 else t) N (d * d')) := by
  obtain ⟨fsA, sgA, hN, hD⟩ := hA
  obtain ⟨fsB, sgB, hM, hE⟩ := hB
  have nea := fsI.ne fsA hia
  have neb := fsI.ne fsB hib
  have b1 := bp_mul hn hd'
  have b2 := bp_mul hn' hd
  have hr0 : s = 0 → r = 0 := by
    intro e
    rw [hr, hsn e, Nat.zero_mul, Nat.zero_mod]
  have hy0 : 0 < n' * d := Nat.mul_pos h0 h0d
  have hrY : r ≤ n' * d := by rw [hr]; exact Nat.le_of_lt (Nat.mod_lt _ hy0)
  have hst : (nI 0 ≤ iz s * iz t) = (0 ≤ s * t) := by
    have h9 : -1 ≤ s * t ∧ s * t ≤ 1 := by
      rcases (show s = -1 ∨ s = 0 ∨ s = 1 by omega) with rfl | rfl | rfl <;> omega
    rw [iz_mul, show nI 0 = iz (0 : Int) from rfl, iz_le (by omega) (by omega) (by omega) (by omega)]
  have hst2 : 0 ≤ s * t ↔ (s = 0 ∨ s = t) := by
    rcases (show s = -1 ∨ s = 0 ∨ s = 1 by omega) with rfl | rfl | rfl <;> omega
  rw [n_fX5_remain]
  have hG := cW.rf (S := (sR x into)) hp
  have sgA0 := sgA
  have ksgA : ¬ (sR x into) (a) := (by first | (simp only [s1, s2, s3, sG, sR, sRc, Nat.add_left_cancel_iff, Nat.reduceEqDiff, or_self, or_false, false_or, not_false_eq_true, Nat.add_le_add_iff_left, Nat.reduceLeDiff, and_false, false_and]; done) | (simp only [s1, s2, s3, sG, sR, sRc]; omega))
  have sgB0 := sgB
  have ksgB : ¬ (sR x into) (b) := (by first | (simp only [s1, s2, s3, sG, sR, sRc, Nat.add_left_cancel_iff, Nat.reduceEqDiff, or_self, or_false, false_or, not_false_eq_true, Nat.add_le_add_iff_left, Nat.reduceLeDiff, and_false, false_and]; done) | (simp only [s1, s2, s3, sG, sR, sRc]; omega))
  have hN0 := hN
  have khN : ¬ (sR x into) ((a + 1)) := (by first | (simp only [s1, s2, s3, sG, sR, sRc, Nat.add_left_cancel_iff, Nat.reduceEqDiff, or_self, or_false, false_or, not_false_eq_true, Nat.add_le_add_iff_left, Nat.reduceLeDiff, and_false, false_and]; done) | (simp only [s1, s2, s3, sG, sR, sRc]; omega))
  have hD0 := hD
  have khD : ¬ (sR x into) ((a + 3)) := (by first | (simp only [s1, s2, s3, sG, sR, sRc, Nat.add_left_cancel_iff, Nat.reduceEqDiff, or_self, or_false, false_or, not_false_eq_true, Nat.add_le_add_iff_left, Nat.reduceLeDiff, and_false, false_and]; done) | (simp only [s1, s2, s3, sG, sR, sRc]; omega))
  have hM0 := hM
  have khM : ¬ (sR x into) ((b + 1)) := (by first | (simp only [s1, s2, s3, sG, sR, sRc, Nat.add_left_cancel_iff, Nat.reduceEqDiff, or_self, or_false, false_or, not_false_eq_true, Nat.add_le_add_iff_left, Nat.reduceLeDiff, and_false, false_and]; done) | (simp only [s1, s2, s3, sG, sR, sRc]; omega))
  have hE0 := hE
  have khE : ¬ (sR x into) ((b + 3)) := (by first | (simp only [s1, s2, s3, sG, sR, sRc, Nat.add_left_cancel_iff, Nat.reduceEqDiff, or_self, or_false, false_or, not_false_eq_true, Nat.add_le_add_iff_left, Nat.reduceLeDiff, and_false, false_and]; done) | (simp only [s1, s2, s3, sG, sR, sRc]; omega))
  (try simp (disch := first | assumption | omega) only [sm_bind, sm_cb, sm_nm, ↓reduceIte, xf_9_0 hx, xf_9_1 hx, xf_9_2 hx, xf_9_3 hx, xf_9_4 hx, xf_9_5 hx, xf_9_6 hx, xf_9_7 hx, xf_9_8 hx, xf_9_9 hx, xf_9_10 hx, xf_9_11 hx, xf_9_12 hx, xf_9_13 hx, xf_9_14 hx, xf_9_15 hx, xf_9_16 hx, xf_5_1_45 hx, xf_5_2_45 hx, xf_5_1_50 hx, xf_5_2_50 hx, xf_5_1_55 hx, xf_5_2_55 hx, xf_5_1_60 hx, xf_5_2_60 hx, xk_18 hx, xk_19 hx, xk_21 hx, xk_23 hx, xk_25 hx, xk_27 hx, xk_29 hx, xk_31 hx, xk_33 hx, xk_35 hx, xk_37 hx, xk_39 hx, xk_41 hx, xk_43 hx, xk_45 hx, xk_46 hx, xk_48 hx, xk_50 hx, xk_51 hx, xk_53 hx, xk_55 hx, xk_56 hx, xk_58 hx, xk_60 hx, xk_61 hx, xk_63 hx, sgA.2, sgB.2, fx_n fsA, fx_d fsA, fx_i fsA, fx_p fsA, fx_k fsA, fx_kn fsA, fx_kd fsA, fx_n fsB, fx_d fsB, fx_i fsB, fx_p fsB, fx_k fsB, fx_kn fsB, fx_kd fsB, fx_n fsI, fx_d fsI, fx_i fsI, fx_p fsI, fx_k fsI, fx_kn fsI, fx_kd fsI, nb0, nb1])
  refine Hx.bd (cw_setProduct hp hN hE (show x + 37 ∈ PX x by simp) (by omega) (by omega) (lt_bp hn (by omega)) (lt_bp hd' (by omega))) (fun σ1 v1 h1 => ?_)
  obtain ⟨hF1, hL⟩ := h1
  have hp1 := hF1.hp
  have hx1 := hx.kW hF1
  have hG1 := hG.tr0 hF1 (fun r _ hr => by simp only [s1, s2, s3, sG, sR, sRc] at hr ⊢; omega)
  replace fsA := fsA.kW hF1
  replace fsB := fsB.kW hF1
  replace fsI := fsI.kW hF1
  have sgA := sgA0.kW hG1 ksgA
  have sgB := sgB0.kW hG1 ksgB
  have hN := hN0.kW hG1 khN
  have hD := hD0.kW hG1 khD
  have hM := hM0.kW hG1 khM
  have hE := hE0.kW hG1 khE
  (try simp (disch := first | assumption | omega) only [sm_bind, sm_cb, sm_nm, ↓reduceIte, xf_9_0 hx1, xf_9_1 hx1, xf_9_2 hx1, xf_9_3 hx1, xf_9_4 hx1, xf_9_5 hx1, xf_9_6 hx1, xf_9_7 hx1, xf_9_8 hx1, xf_9_9 hx1, xf_9_10 hx1, xf_9_11 hx1, xf_9_12 hx1, xf_9_13 hx1, xf_9_14 hx1, xf_9_15 hx1, xf_9_16 hx1, xf_5_1_45 hx1, xf_5_2_45 hx1, xf_5_1_50 hx1, xf_5_2_50 hx1, xf_5_1_55 hx1, xf_5_2_55 hx1, xf_5_1_60 hx1, xf_5_2_60 hx1, xk_18 hx1, xk_19 hx1, xk_21 hx1, xk_23 hx1, xk_25 hx1, xk_27 hx1, xk_29 hx1, xk_31 hx1, xk_33 hx1, xk_35 hx1, xk_37 hx1, xk_39 hx1, xk_41 hx1, xk_43 hx1, xk_45 hx1, xk_46 hx1, xk_48 hx1, xk_50 hx1, xk_51 hx1, xk_53 hx1, xk_55 hx1, xk_56 hx1, xk_58 hx1, xk_60 hx1, xk_61 hx1, xk_63 hx1, sgA.2, sgB.2, fx_n fsA, fx_d fsA, fx_i fsA, fx_p fsA, fx_k fsA, fx_kn fsA, fx_kd fsA, fx_n fsB, fx_d fsB, fx_i fsB, fx_p fsB, fx_k fsB, fx_kn fsB, fx_kd fsB, fx_n fsI, fx_d fsI, fx_i fsI, fx_p fsI, fx_k fsI, fx_kn fsI, fx_kd fsI, nb0, nb1])
  refine Hx.bd (cw_setProduct hp1 hM hD (show x + 39 ∈ PX x by simp) (by omega) (by omega) (lt_bp hn' (by omega)) (lt_bp hd (by omega))) (fun σ2 v2 h2 => ?_)
  obtain ⟨hF2, hR⟩ := h2
  have hp2 := hF2.hp
  have hx2 := hx1.kW hF2
  have hG2 := hG1.tr0 hF2 (fun r _ hr => by simp only [s1, s2, s3, sG, sR, sRc] at hr ⊢; omega)
  replace fsA := fsA.kW hF2
  replace fsB := fsB.kW hF2
  replace fsI := fsI.kW hF2
  have sgA := sgA0.kW hG2 ksgA
  have sgB := sgB0.kW hG2 ksgB
  have hN := hN0.kW hG2 khN
  have hD := hD0.kW hG2 khD
  have hM := hM0.kW hG2 khM
  have hE := hE0.kW hG2 khE
  try replace hL := hL.kW hF2 (by first | (simp only [s1, s2, s3, sG, sR, sRc, Nat.add_left_cancel_iff, Nat.reduceEqDiff, or_self, or_false, false_or, not_false_eq_true, Nat.add_le_add_iff_left, Nat.reduceLeDiff, and_false, false_and]; done) | (simp only [s1, s2, s3, sG, sR, sRc]; omega))
  (try simp (disch := first | assumption | omega) only [sm_bind, sm_cb, sm_nm, ↓reduceIte, xf_9_0 hx2, xf_9_1 hx2, xf_9_2 hx2, xf_9_3 hx2, xf_9_4 hx2, xf_9_5 hx2, xf_9_6 hx2, xf_9_7 hx2, xf_9_8 hx2, xf_9_9 hx2, xf_9_10 hx2, xf_9_11 hx2, xf_9_12 hx2, xf_9_13 hx2, xf_9_14 hx2, xf_9_15 hx2, xf_9_16 hx2, xf_5_1_45 hx2, xf_5_2_45 hx2, xf_5_1_50 hx2, xf_5_2_50 hx2, xf_5_1_55 hx2, xf_5_2_55 hx2, xf_5_1_60 hx2, xf_5_2_60 hx2, xk_18 hx2, xk_19 hx2, xk_21 hx2, xk_23 hx2, xk_25 hx2, xk_27 hx2, xk_29 hx2, xk_31 hx2, xk_33 hx2, xk_35 hx2, xk_37 hx2, xk_39 hx2, xk_41 hx2, xk_43 hx2, xk_45 hx2, xk_46 hx2, xk_48 hx2, xk_50 hx2, xk_51 hx2, xk_53 hx2, xk_55 hx2, xk_56 hx2, xk_58 hx2, xk_60 hx2, xk_61 hx2, xk_63 hx2, sgA.2, sgB.2, fx_n fsA, fx_d fsA, fx_i fsA, fx_p fsA, fx_k fsA, fx_kn fsA, fx_kd fsA, fx_n fsB, fx_d fsB, fx_i fsB, fx_p fsB, fx_k fsB, fx_kn fsB, fx_kd fsB, fx_n fsI, fx_d fsI, fx_i fsI, fx_p fsI, fx_k fsI, fx_kn fsI, fx_kd fsI, nb0, nb1])
  refine Hx.bd (cw_divide hp2 hx2 hL hR (show x + 33 ∈ PX x by simp) hI (lt_bp b1 (by omega)) (by omega)) (fun σ3 v3 h3 => ?_)
  obtain ⟨hF3, _, hQ⟩ := h3
  have hp3 := hF3.hp
  have hx3 := hx2.kW hF3
  have hG3 := hG2.tr0 hF3 (fun r _ hr => by simp only [s1, s2, s3, sG, sR, sRc] at hr ⊢; omega)
  replace fsA := fsA.kW hF3
  replace fsB := fsB.kW hF3
  replace fsI := fsI.kW hF3
  have sgA := sgA0.kW hG3 ksgA
  have sgB := sgB0.kW hG3 ksgB
  have hN := hN0.kW hG3 khN
  have hD := hD0.kW hG3 khD
  have hM := hM0.kW hG3 khM
  have hE := hE0.kW hG3 khE
  try replace hL := hL.kW hF3 (by first | (simp only [s1, s2, s3, sG, sR, sRc, Nat.add_left_cancel_iff, Nat.reduceEqDiff, or_self, or_false, false_or, not_false_eq_true, Nat.add_le_add_iff_left, Nat.reduceLeDiff, and_false, false_and]; done) | (simp only [s1, s2, s3, sG, sR, sRc]; omega))
  try replace hR := hR.kW hF3 (by first | (simp only [s1, s2, s3, sG, sR, sRc, Nat.add_left_cancel_iff, Nat.reduceEqDiff, or_self, or_false, false_or, not_false_eq_true, Nat.add_le_add_iff_left, Nat.reduceLeDiff, and_false, false_and]; done) | (simp only [s1, s2, s3, sG, sR, sRc]; omega))
  (try simp (disch := first | assumption | omega) only [sm_bind, sm_cb, sm_nm, ↓reduceIte, xf_9_0 hx3, xf_9_1 hx3, xf_9_2 hx3, xf_9_3 hx3, xf_9_4 hx3, xf_9_5 hx3, xf_9_6 hx3, xf_9_7 hx3, xf_9_8 hx3, xf_9_9 hx3, xf_9_10 hx3, xf_9_11 hx3, xf_9_12 hx3, xf_9_13 hx3, xf_9_14 hx3, xf_9_15 hx3, xf_9_16 hx3, xf_5_1_45 hx3, xf_5_2_45 hx3, xf_5_1_50 hx3, xf_5_2_50 hx3, xf_5_1_55 hx3, xf_5_2_55 hx3, xf_5_1_60 hx3, xf_5_2_60 hx3, xk_18 hx3, xk_19 hx3, xk_21 hx3, xk_23 hx3, xk_25 hx3, xk_27 hx3, xk_29 hx3, xk_31 hx3, xk_33 hx3, xk_35 hx3, xk_37 hx3, xk_39 hx3, xk_41 hx3, xk_43 hx3, xk_45 hx3, xk_46 hx3, xk_48 hx3, xk_50 hx3, xk_51 hx3, xk_53 hx3, xk_55 hx3, xk_56 hx3, xk_58 hx3, xk_60 hx3, xk_61 hx3, xk_63 hx3, sgA.2, sgB.2, fx_n fsA, fx_d fsA, fx_i fsA, fx_p fsA, fx_k fsA, fx_kn fsA, fx_kd fsA, fx_n fsB, fx_d fsB, fx_i fsB, fx_p fsB, fx_k fsB, fx_kn fsB, fx_kd fsB, fx_n fsI, fx_d fsI, fx_i fsI, fx_p fsI, fx_k fsI, fx_kn fsI, fx_kd fsI, nb0, nb1, hst])
  rw [← hr] at hQ
  have hfin : ∀ σ' : St, cW x (sR x into) 0 0 σ σ' → XS σ' x → FS σ' a → FS σ' b → FS σ' into → Sg σ' b t → Nt σ' (a + 3) d → Nt σ' (b + 3) d' → Nt σ' (into + 1) N → Hx (fX5_remain_94 σ' a b into) (fun σ' _ => cW x (sR x into) 0 0 σ σ' ∧ FX σ' into (if N = 0 then 0 else t) N (d * d')) := by
    intro τ hG0 hxT fsA fsB fsI sgB hD hE hQ
    have hpT := hG0.hp
    clear hNe
    rw [n_fX5_remain_94]
    simp only [fx_d fsI, fx_d fsA, fx_d fsB, sm_bind, fx_kd fsI]
    refine Hx.bd (cw_setProduct hpT hD hE hI3 (by omega) (by omega) (lt_bp hd (by omega)) (lt_bp hd' (by omega))) (fun σ1 _ h => ?_)
    obtain ⟨hF1, hD1⟩ := h
    simp only [fx_i (fsB.kW hF1), (sgB.kW hF1 (by simp only [s1]; omega)).2, sm_bind, fx_k (fsI.kW hF1)]
    refine Hx.bd (cf_setSign hF1.hp (fsI.kW hF1) (hQ.kW hF1 (by simp only [s1]; omega))) (fun σ2 _ h => ?_)
    obtain ⟨hF2, hS2⟩ := h
    exact Hx.ret ⟨(hG0.tr0 hF1 (fun r _ hr => by simp only [s1, sR] at hr ⊢; omega)).tr0 hF2 (fun r _ hr => by simp only [s1, sR] at hr ⊢; omega), (fsI.kW hF1).kW hF2, hS2, (hQ.kW hF1 (by simp only [s1]; omega)).kW hF2 (by simp only [s1]; omega), hD1.kW hF2 (by simp only [s1]; omega)⟩
  refine Hx.cs (fun c => ?_) (fun c => ?_)
  · have c := hst2.mp c
    have eN : N = r := by
      rw [hNe, if_neg]
      rintro ⟨q1, q2⟩
      rcases c with c | c
      · exact q1 (hr0 c)
      · exact q2 c
    rw [← eN] at hQ
    exact hfin _ hG3 hx3 fsA fsB fsI sgB hD hE hQ
  · have c : ¬ (s = 0 ∨ s = t) := fun q => c (hst2.mpr q)
    (try simp (disch := first | assumption | omega) only [sm_bind, sm_cb, sm_nm, ↓reduceIte, xf_9_0 hx3, xf_9_1 hx3, xf_9_2 hx3, xf_9_3 hx3, xf_9_4 hx3, xf_9_5 hx3, xf_9_6 hx3, xf_9_7 hx3, xf_9_8 hx3, xf_9_9 hx3, xf_9_10 hx3, xf_9_11 hx3, xf_9_12 hx3, xf_9_13 hx3, xf_9_14 hx3, xf_9_15 hx3, xf_9_16 hx3, xf_5_1_45 hx3, xf_5_2_45 hx3, xf_5_1_50 hx3, xf_5_2_50 hx3, xf_5_1_55 hx3, xf_5_2_55 hx3, xf_5_1_60 hx3, xf_5_2_60 hx3, xk_18 hx3, xk_19 hx3, xk_21 hx3, xk_23 hx3, xk_25 hx3, xk_27 hx3, xk_29 hx3, xk_31 hx3, xk_33 hx3, xk_35 hx3, xk_37 hx3, xk_39 hx3, xk_41 hx3, xk_43 hx3, xk_45 hx3, xk_46 hx3, xk_48 hx3, xk_50 hx3, xk_51 hx3, xk_53 hx3, xk_55 hx3, xk_56 hx3, xk_58 hx3, xk_60 hx3, xk_61 hx3, xk_63 hx3, sgA.2, sgB.2, fx_n fsA, fx_d fsA, fx_i fsA, fx_p fsA, fx_k fsA, fx_kn fsA, fx_kd fsA, fx_n fsB, fx_d fsB, fx_i fsB, fx_p fsB, fx_k fsB, fx_kn fsB, fx_kd fsB, fx_n fsI, fx_d fsI, fx_i fsI, fx_p fsI, fx_k fsI, fx_kn fsI, fx_kd fsI, nb0, nb1, cn_isZero hQ])
    refine Hx.cs (fun c2 => ?_) (fun c2 => ?_)
    · (try simp (disch := first | assumption | omega) only [sm_bind, sm_cb, sm_nm, ↓reduceIte, xf_9_0 hx3, xf_9_1 hx3, xf_9_2 hx3, xf_9_3 hx3, xf_9_4 hx3, xf_9_5 hx3, xf_9_6 hx3, xf_9_7 hx3, xf_9_8 hx3, xf_9_9 hx3, xf_9_10 hx3, xf_9_11 hx3, xf_9_12 hx3, xf_9_13 hx3, xf_9_14 hx3, xf_9_15 hx3, xf_9_16 hx3, xf_5_1_45 hx3, xf_5_2_45 hx3, xf_5_1_50 hx3, xf_5_2_50 hx3, xf_5_1_55 hx3, xf_5_2_55 hx3, xf_5_1_60 hx3, xf_5_2_60 hx3, xk_18 hx3, xk_19 hx3, xk_21 hx3, xk_23 hx3, xk_25 hx3, xk_27 hx3, xk_29 hx3, xk_31 hx3, xk_33 hx3, xk_35 hx3, xk_37 hx3, xk_39 hx3, xk_41 hx3, xk_43 hx3, xk_45 hx3, xk_46 hx3, xk_48 hx3, xk_50 hx3, xk_51 hx3, xk_53 hx3, xk_55 hx3, xk_56 hx3, xk_58 hx3, xk_60 hx3, xk_61 hx3, xk_63 hx3, sgA.2, sgB.2, fx_n fsA, fx_d fsA, fx_i fsA, fx_p fsA, fx_k fsA, fx_kn fsA, fx_kd fsA, fx_n fsB, fx_d fsB, fx_i fsB, fx_p fsB, fx_k fsB, fx_kn fsB, fx_kd fsB, fx_n fsI, fx_d fsI, fx_i fsI, fx_p fsI, fx_k fsI, fx_kn fsI, fx_kd fsI, nb0, nb1])
      have eN : n' * d - r = N := by rw [hNe, if_pos ⟨c2, by omega⟩]
      refine Hx.bd (cw_minus hp3 hR hQ (by omega) hrY) (fun σ4 v4 h4 => ?_)
      obtain ⟨hF4, hR⟩ := h4
      have hp4 := hF4.hp
      have hx4 := hx3.kW hF4
      have hG4 := hG3.tr0 hF4 (fun r _ hr => by simp only [s1, s2, s3, sG, sR, sRc] at hr ⊢; omega)
      replace fsA := fsA.kW hF4
      replace fsB := fsB.kW hF4
      replace fsI := fsI.kW hF4
      have sgA := sgA0.kW hG4 ksgA
      have sgB := sgB0.kW hG4 ksgB
      have hN := hN0.kW hG4 khN
      have hD := hD0.kW hG4 khD
      have hM := hM0.kW hG4 khM
      have hE := hE0.kW hG4 khE
      try replace hL := hL.kW hF4 (by first | (simp only [s1, s2, s3, sG, sR, sRc, Nat.add_left_cancel_iff, Nat.reduceEqDiff, or_self, or_false, false_or, not_false_eq_true, Nat.add_le_add_iff_left, Nat.reduceLeDiff, and_false, false_and]; done) | (simp only [s1, s2, s3, sG, sR, sRc]; omega))
      try replace hQ := hQ.kW hF4 (by first | (simp only [s1, s2, s3, sG, sR, sRc, Nat.add_left_cancel_iff, Nat.reduceEqDiff, or_self, or_false, false_or, not_false_eq_true, Nat.add_le_add_iff_left, Nat.reduceLeDiff, and_false, false_and]; done) | (simp only [s1, s2, s3, sG, sR, sRc]; omega))
      (try simp (disch := first | assumption | omega) only [sm_bind, sm_cb, sm_nm, ↓reduceIte, xf_9_0 hx4, xf_9_1 hx4, xf_9_2 hx4, xf_9_3 hx4, xf_9_4 hx4, xf_9_5 hx4, xf_9_6 hx4, xf_9_7 hx4, xf_9_8 hx4, xf_9_9 hx4, xf_9_10 hx4, xf_9_11 hx4, xf_9_12 hx4, xf_9_13 hx4, xf_9_14 hx4, xf_9_15 hx4, xf_9_16 hx4, xf_5_1_45 hx4, xf_5_2_45 hx4, xf_5_1_50 hx4, xf_5_2_50 hx4, xf_5_1_55 hx4, xf_5_2_55 hx4, xf_5_1_60 hx4, xf_5_2_60 hx4, xk_18 hx4, xk_19 hx4, xk_21 hx4, xk_23 hx4, xk_25 hx4, xk_27 hx4, xk_29 hx4, xk_31 hx4, xk_33 hx4, xk_35 hx4, xk_37 hx4, xk_39 hx4, xk_41 hx4, xk_43 hx4, xk_45 hx4, xk_46 hx4, xk_48 hx4, xk_50 hx4, xk_51 hx4, xk_53 hx4, xk_55 hx4, xk_56 hx4, xk_58 hx4, xk_60 hx4, xk_61 hx4, xk_63 hx4, sgA.2, sgB.2, fx_n fsA, fx_d fsA, fx_i fsA, fx_p fsA, fx_k fsA, fx_kn fsA, fx_kd fsA, fx_n fsB, fx_d fsB, fx_i fsB, fx_p fsB, fx_k fsB, fx_kn fsB, fx_kd fsB, fx_n fsI, fx_d fsI, fx_i fsI, fx_p fsI, fx_k fsI, fx_kn fsI, fx_kd fsI, nb0, nb1])
      rw [eN] at hR
      have hNb : sml (N) 400 := by rw [← eN]; exact Nat.lt_of_le_of_lt (Nat.sub_le _ _) b2
      refine Hx.bd (cw_setTo hp4 hQ hR (Or.inl hI) (lt_bp hNb (by omega))) (fun σ5 v5 h5 => ?_)
      obtain ⟨hF5, hQ⟩ := h5
      have hp5 := hF5.hp
      have hx5 := hx4.kW hF5
      have hG5 := hG4.tr0 hF5 (fun r _ hr => by simp only [s1, s2, s3, sG, sR, sRc] at hr ⊢; omega)
      replace fsA := fsA.kW hF5
      replace fsB := fsB.kW hF5
      replace fsI := fsI.kW hF5
      have sgA := sgA0.kW hG5 ksgA
      have sgB := sgB0.kW hG5 ksgB
      have hN := hN0.kW hG5 khN
      have hD := hD0.kW hG5 khD
      have hM := hM0.kW hG5 khM
      have hE := hE0.kW hG5 khE
      try replace hL := hL.kW hF5 (by first | (simp only [s1, s2, s3, sG, sR, sRc, Nat.add_left_cancel_iff, Nat.reduceEqDiff, or_self, or_false, false_or, not_false_eq_true, Nat.add_le_add_iff_left, Nat.reduceLeDiff, and_false, false_and]; done) | (simp only [s1, s2, s3, sG, sR, sRc]; omega))
      try replace hR := hR.kW hF5 (by first | (simp only [s1, s2, s3, sG, sR, sRc, Nat.add_left_cancel_iff, Nat.reduceEqDiff, or_self, or_false, false_or, not_false_eq_true, Nat.add_le_add_iff_left, Nat.reduceLeDiff, and_false, false_and]; done) | (simp only [s1, s2, s3, sG, sR, sRc]; omega))
      (try simp (disch := first | assumption | omega) only [sm_bind, sm_cb, sm_nm, ↓reduceIte, xf_9_0 hx5, xf_9_1 hx5, xf_9_2 hx5, xf_9_3 hx5, xf_9_4 hx5, xf_9_5 hx5, xf_9_6 hx5, xf_9_7 hx5, xf_9_8 hx5, xf_9_9 hx5, xf_9_10 hx5, xf_9_11 hx5, xf_9_12 hx5, xf_9_13 hx5, xf_9_14 hx5, xf_9_15 hx5, xf_9_16 hx5, xf_5_1_45 hx5, xf_5_2_45 hx5, xf_5_1_50 hx5, xf_5_2_50 hx5, xf_5_1_55 hx5, xf_5_2_55 hx5, xf_5_1_60 hx5, xf_5_2_60 hx5, xk_18 hx5, xk_19 hx5, xk_21 hx5, xk_23 hx5, xk_25 hx5, xk_27 hx5, xk_29 hx5, xk_31 hx5, xk_33 hx5, xk_35 hx5, xk_37 hx5, xk_39 hx5, xk_41 hx5, xk_43 hx5, xk_45 hx5, xk_46 hx5, xk_48 hx5, xk_50 hx5, xk_51 hx5, xk_53 hx5, xk_55 hx5, xk_56 hx5, xk_58 hx5, xk_60 hx5, xk_61 hx5, xk_63 hx5, sgA.2, sgB.2, fx_n fsA, fx_d fsA, fx_i fsA, fx_p fsA, fx_k fsA, fx_kn fsA, fx_kd fsA, fx_n fsB, fx_d fsB, fx_i fsB, fx_p fsB, fx_k fsB, fx_kn fsB, fx_kd fsB, fx_n fsI, fx_d fsI, fx_i fsI, fx_p fsI, fx_k fsI, fx_kn fsI, fx_kd fsI, nb0, nb1])
      exact hfin _ hG5 hx5 fsA fsB fsI sgB hD hE hQ
    · have eN : N = r := by rw [hNe, if_neg (fun q => c2 q.1)]
      rw [← eN] at hQ
      exact hfin _ hG3 hx3 fsA fsB fsI sgB hD hE hQ
theorem cr_mediate {x a b into n d n' d' : Nat} {s t : Int} {σ : St} (hp : HP (PX x) σ) (hx : XS σ x) (hA : FX σ a s n d) (hB : FX σ b t n' d') (fsI : FS σ into) (hI : into + 1 ∈ PX x) (hI3 : into + 3 ∈ PX x) (hia : into ≠ a) (hib : into ≠ b) (hax : x + 40 < a ∨ a + 3 < x + 19) (hbx : x + 40 < b ∨ b + 3 < x + 19) (hix : x + 40 < into)
    (hn : sml (n) 200) (hd : sml (d) 200) (hn' : sml (n') 200) (hd' : sml (d') 200) (hs : -1 ≤ s ∧ s ≤ 1) (ht : -1 ≤ t ∧ t ≤ 1) :
    Hx (fX5_mediate σ (x + 18) a b into) (fun σ' _ => cW x (sR x into) 0 0 σ σ' ∧ FX σ' into (if jnN s t n n' = 0 then 0 else jnS s t n n') (jnN s t n n') (d + d')) := by
  obtain ⟨fsA, sgA, hN, hD⟩ := hA
  obtain ⟨fsB, sgB, hM, hE⟩ := hB
  have nea := fsI.ne fsA hia
  have neb := fsI.ne fsB hib
  obtain ⟨z, hZ⟩ := hp.2 _ hI3
  obtain ⟨z1, hL⟩ := hp.2 (x + 37) (by simp)
  obtain ⟨z2, hR⟩ := hp.2 (x + 39) (by simp)
  rw [n_fX5_mediate]
  have hG := cW.rf (S := (sR x into)) hp
  have sgA0 := sgA
  have ksgA : ¬ (sR x into) (a) := (by first | (simp only [s1, s2, s3, sG, sR, sRc, Nat.add_left_cancel_iff, Nat.reduceEqDiff, or_self, or_false, false_or, not_false_eq_true, Nat.add_le_add_iff_left, Nat.reduceLeDiff, and_false, false_and]; done) | (simp only [s1, s2, s3, sG, sR, sRc]; omega))
  have sgB0 := sgB
  have ksgB : ¬ (sR x into) (b) := (by first | (simp only [s1, s2, s3, sG, sR, sRc, Nat.add_left_cancel_iff, Nat.reduceEqDiff, or_self, or_false, false_or, not_false_eq_true, Nat.add_le_add_iff_left, Nat.reduceLeDiff, and_false, false_and]; done) | (simp only [s1, s2, s3, sG, sR, sRc]; omega))
  have hN0 := hN
  have khN : ¬ (sR x into) ((a + 1)) := (by first | (simp only [s1, s2, s3, sG, sR, sRc, Nat.add_left_cancel_iff, Nat.reduceEqDiff, or_self, or_false, false_or, not_false_eq_true, Nat.add_le_add_iff_left, Nat.reduceLeDiff, and_false, false_and]; done) | (simp only [s1, s2, s3, sG, sR, sRc]; omega))
  have hD0 := hD
  have khD : ¬ (sR x into) ((a + 3)) := (by first | (simp only [s1, s2, s3, sG, sR, sRc, Nat.add_left_cancel_iff, Nat.reduceEqDiff, or_self, or_false, false_or, not_false_eq_true, Nat.add_le_add_iff_left, Nat.reduceLeDiff, and_false, false_and]; done) | (simp only [s1, s2, s3, sG, sR, sRc]; omega))
  have hM0 := hM
  have khM : ¬ (sR x into) ((b + 1)) := (by first | (simp only [s1, s2, s3, sG, sR, sRc, Nat.add_left_cancel_iff, Nat.reduceEqDiff, or_self, or_false, false_or, not_false_eq_true, Nat.add_le_add_iff_left, Nat.reduceLeDiff, and_false, false_and]; done) | (simp only [s1, s2, s3, sG, sR, sRc]; omega))
  have hE0 := hE
  have khE : ¬ (sR x into) ((b + 3)) := (by first | (simp only [s1, s2, s3, sG, sR, sRc, Nat.add_left_cancel_iff, Nat.reduceEqDiff, or_self, or_false, false_or, not_false_eq_true, Nat.add_le_add_iff_left, Nat.reduceLeDiff, and_false, false_and]; done) | (simp only [s1, s2, s3, sG, sR, sRc]; omega))
  clear nea neb
  (try simp (disch := first | assumption | omega) only [sm_bind, sm_cb, sm_nm, ↓reduceIte, xf_9_0 hx, xf_9_1 hx, xf_9_2 hx, xf_9_3 hx, xf_9_4 hx, xf_9_5 hx, xf_9_6 hx, xf_9_7 hx, xf_9_8 hx, xf_9_9 hx, xf_9_10 hx, xf_9_11 hx, xf_9_12 hx, xf_9_13 hx, xf_9_14 hx, xf_9_15 hx, xf_9_16 hx, xf_5_1_45 hx, xf_5_2_45 hx, xf_5_1_50 hx, xf_5_2_50 hx, xf_5_1_55 hx, xf_5_2_55 hx, xf_5_1_60 hx, xf_5_2_60 hx, xk_18 hx, xk_19 hx, xk_21 hx, xk_23 hx, xk_25 hx, xk_27 hx, xk_29 hx, xk_31 hx, xk_33 hx, xk_35 hx, xk_37 hx, xk_39 hx, xk_41 hx, xk_43 hx, xk_45 hx, xk_46 hx, xk_48 hx, xk_50 hx, xk_51 hx, xk_53 hx, xk_55 hx, xk_56 hx, xk_58 hx, xk_60 hx, xk_61 hx, xk_63 hx, sgA.2, sgB.2, fx_n fsA, fx_d fsA, fx_i fsA, fx_p fsA, fx_k fsA, fx_kn fsA, fx_kd fsA, fx_n fsB, fx_d fsB, fx_i fsB, fx_p fsB, fx_k fsB, fx_kn fsB, fx_kd fsB, fx_n fsI, fx_d fsI, fx_i fsI, fx_p fsI, fx_k fsI, fx_kn fsI, fx_kd fsI, nb0, nb1])
  refine Hx.bd (cw_setTo hp hL hN (Or.inl (by simp)) (lt_bp hn (by omega))) (fun σ1 v1 h1 => ?_)
  obtain ⟨hF1, hL⟩ := h1
  have hp1 := hF1.hp
  have hx1 := hx.kW hF1
  have hG1 := hG.tr0 hF1 (fun r _ hr => by simp only [s1, s2, s3, sG, sR, sRc] at hr ⊢; omega)
  replace fsA := fsA.kW hF1
  replace fsB := fsB.kW hF1
  replace fsI := fsI.kW hF1
  have sgA := sgA0.kW hG1 ksgA
  have sgB := sgB0.kW hG1 ksgB
  have hN := hN0.kW hG1 khN
  have hD := hD0.kW hG1 khD
  have hM := hM0.kW hG1 khM
  have hE := hE0.kW hG1 khE
  try replace hZ := hZ.kW hF1 (by first | (simp only [s1, s2, s3, sG, sR, sRc, Nat.add_left_cancel_iff, Nat.reduceEqDiff, or_self, or_false, false_or, not_false_eq_true, Nat.add_le_add_iff_left, Nat.reduceLeDiff, and_false, false_and]; done) | (simp only [s1, s2, s3, sG, sR, sRc]; omega))
  try replace hR := hR.kW hF1 (by first | (simp only [s1, s2, s3, sG, sR, sRc, Nat.add_left_cancel_iff, Nat.reduceEqDiff, or_self, or_false, false_or, not_false_eq_true, Nat.add_le_add_iff_left, Nat.reduceLeDiff, and_false, false_and]; done) | (simp only [s1, s2, s3, sG, sR, sRc]; omega))
  (try simp (disch := first | assumption | omega) only [sm_bind, sm_cb, sm_nm, ↓reduceIte, xf_9_0 hx1, xf_9_1 hx1, xf_9_2 hx1, xf_9_3 hx1, xf_9_4 hx1, xf_9_5 hx1, xf_9_6 hx1, xf_9_7 hx1, xf_9_8 hx1, xf_9_9 hx1, xf_9_10 hx1, xf_9_11 hx1, xf_9_12 hx1, xf_9_13 hx1, xf_9_14 hx1, xf_9_15 hx1, xf_9_16 hx1, xf_5_1_45 hx1, xf_5_2_45 hx1, xf_5_1_50 hx1, xf_5_2_50 hx1, xf_5_1_55 hx1, xf_5_2_55 hx1, xf_5_1_60 hx1, xf_5_2_60 hx1, xk_18 hx1, xk_19 hx1, xk_21 hx1, xk_23 hx1, xk_25 hx1, xk_27 hx1, xk_29 hx1, xk_31 hx1, xk_33 hx1, xk_35 hx1, xk_37 hx1, xk_39 hx1, xk_41 hx1, xk_43 hx1, xk_45 hx1, xk_46 hx1, xk_48 hx1, xk_50 hx1, xk_51 hx1, xk_53 hx1, xk_55 hx1, xk_56 hx1, xk_58 hx1, xk_60 hx1, xk_61 hx1, xk_63 hx1, sgA.2, sgB.2, fx_n fsA, fx_d fsA, fx_i fsA, fx_p fsA, fx_k fsA, fx_kn fsA, fx_kd fsA, fx_n fsB, fx_d fsB, fx_i fsB, fx_p fsB, fx_k fsB, fx_kn fsB, fx_kd fsB, fx_n fsI, fx_d fsI, fx_i fsI, fx_p fsI, fx_k fsI, fx_kn fsI, fx_kd fsI, nb0, nb1])
  refine Hx.bd (cw_setTo hp1 hR hM (Or.inl (by simp)) (lt_bp hn' (by omega))) (fun σ2 v2 h2 => ?_)
  obtain ⟨hF2, hR⟩ := h2
  have hp2 := hF2.hp
  have hx2 := hx1.kW hF2
  have hG2 := hG1.tr0 hF2 (fun r _ hr => by simp only [s1, s2, s3, sG, sR, sRc] at hr ⊢; omega)
  replace fsA := fsA.kW hF2
  replace fsB := fsB.kW hF2
  replace fsI := fsI.kW hF2
  have sgA := sgA0.kW hG2 ksgA
  have sgB := sgB0.kW hG2 ksgB
  have hN := hN0.kW hG2 khN
  have hD := hD0.kW hG2 khD
  have hM := hM0.kW hG2 khM
  have hE := hE0.kW hG2 khE
  try replace hZ := hZ.kW hF2 (by first | (simp only [s1, s2, s3, sG, sR, sRc, Nat.add_left_cancel_iff, Nat.reduceEqDiff, or_self, or_false, false_or, not_false_eq_true, Nat.add_le_add_iff_left, Nat.reduceLeDiff, and_false, false_and]; done) | (simp only [s1, s2, s3, sG, sR, sRc]; omega))
  try replace hL := hL.kW hF2 (by first | (simp only [s1, s2, s3, sG, sR, sRc, Nat.add_left_cancel_iff, Nat.reduceEqDiff, or_self, or_false, false_or, not_false_eq_true, Nat.add_le_add_iff_left, Nat.reduceLeDiff, and_false, false_and]; done) | (simp only [s1, s2, s3, sG, sR, sRc]; omega))
  (try simp (disch := first | assumption | omega) only [sm_bind, sm_cb, sm_nm, ↓reduceIte, xf_9_0 hx2, xf_9_1 hx2, xf_9_2 hx2, xf_9_3 hx2, xf_9_4 hx2, xf_9_5 hx2, xf_9_6 hx2, xf_9_7 hx2, xf_9_8 hx2, xf_9_9 hx2, xf_9_10 hx2, xf_9_11 hx2, xf_9_12 hx2, xf_9_13 hx2, xf_9_14 hx2, xf_9_15 hx2, xf_9_16 hx2, xf_5_1_45 hx2, xf_5_2_45 hx2, xf_5_1_50 hx2, xf_5_2_50 hx2, xf_5_1_55 hx2, xf_5_2_55 hx2, xf_5_1_60 hx2, xf_5_2_60 hx2, xk_18 hx2, xk_19 hx2, xk_21 hx2, xk_23 hx2, xk_25 hx2, xk_27 hx2, xk_29 hx2, xk_31 hx2, xk_33 hx2, xk_35 hx2, xk_37 hx2, xk_39 hx2, xk_41 hx2, xk_43 hx2, xk_45 hx2, xk_46 hx2, xk_48 hx2, xk_50 hx2, xk_51 hx2, xk_53 hx2, xk_55 hx2, xk_56 hx2, xk_58 hx2, xk_60 hx2, xk_61 hx2, xk_63 hx2, sgA.2, sgB.2, fx_n fsA, fx_d fsA, fx_i fsA, fx_p fsA, fx_k fsA, fx_kn fsA, fx_kd fsA, fx_n fsB, fx_d fsB, fx_i fsB, fx_p fsB, fx_k fsB, fx_kn fsB, fx_kd fsB, fx_n fsI, fx_d fsI, fx_i fsI, fx_p fsI, fx_k fsI, fx_kn fsI, fx_kd fsI, nb0, nb1])
  refine Hx.bd (cr_join hp2 hx2 hL hR fsI hI hix (lt_bp hn (by omega)) (lt_bp hn' (by omega)) hs ht) (fun σ3 v3 h3 => ?_)
  obtain ⟨hF3, sgI, hT1⟩ := h3
  have hp3 := hF3.hp
  have hx3 := hx2.kW hF3
  have hG3 := hG2.tr0 hF3 (fun r _ hr => by simp only [s1, s2, s3, sG, sR, sRc] at hr ⊢; omega)
  replace fsA := fsA.kW hF3
  replace fsB := fsB.kW hF3
  replace fsI := fsI.kW hF3
  have sgA := sgA0.kW hG3 ksgA
  have sgB := sgB0.kW hG3 ksgB
  have hN := hN0.kW hG3 khN
  have hD := hD0.kW hG3 khD
  have hM := hM0.kW hG3 khM
  have hE := hE0.kW hG3 khE
  try replace hZ := hZ.kW hF3 (by first | (simp only [s1, s2, s3, sG, sR, sRc, Nat.add_left_cancel_iff, Nat.reduceEqDiff, or_self, or_false, false_or, not_false_eq_true, Nat.add_le_add_iff_left, Nat.reduceLeDiff, and_false, false_and]; done) | (simp only [s1, s2, s3, sG, sR, sRc]; omega))
  try replace hL := hL.kW hF3 (by first | (simp only [s1, s2, s3, sG, sR, sRc, Nat.add_left_cancel_iff, Nat.reduceEqDiff, or_self, or_false, false_or, not_false_eq_true, Nat.add_le_add_iff_left, Nat.reduceLeDiff, and_false, false_and]; done) | (simp only [s1, s2, s3, sG, sR, sRc]; omega))
  try replace hR := hR.kW hF3 (by first | (simp only [s1, s2, s3, sG, sR, sRc, Nat.add_left_cancel_iff, Nat.reduceEqDiff, or_self, or_false, false_or, not_false_eq_true, Nat.add_le_add_iff_left, Nat.reduceLeDiff, and_false, false_and]; done) | (simp only [s1, s2, s3, sG, sR, sRc]; omega))
  (try simp (disch := first | assumption | omega) only [sm_bind, sm_cb, sm_nm, ↓reduceIte, xf_9_0 hx3, xf_9_1 hx3, xf_9_2 hx3, xf_9_3 hx3, xf_9_4 hx3, xf_9_5 hx3, xf_9_6 hx3, xf_9_7 hx3, xf_9_8 hx3, xf_9_9 hx3, xf_9_10 hx3, xf_9_11 hx3, xf_9_12 hx3, xf_9_13 hx3, xf_9_14 hx3, xf_9_15 hx3, xf_9_16 hx3, xf_5_1_45 hx3, xf_5_2_45 hx3, xf_5_1_50 hx3, xf_5_2_50 hx3, xf_5_1_55 hx3, xf_5_2_55 hx3, xf_5_1_60 hx3, xf_5_2_60 hx3, xk_18 hx3, xk_19 hx3, xk_21 hx3, xk_23 hx3, xk_25 hx3, xk_27 hx3, xk_29 hx3, xk_31 hx3, xk_33 hx3, xk_35 hx3, xk_37 hx3, xk_39 hx3, xk_41 hx3, xk_43 hx3, xk_45 hx3, xk_46 hx3, xk_48 hx3, xk_50 hx3, xk_51 hx3, xk_53 hx3, xk_55 hx3, xk_56 hx3, xk_58 hx3, xk_60 hx3, xk_61 hx3, xk_63 hx3, sgA.2, sgB.2, sgI.2, fx_n fsA, fx_d fsA, fx_i fsA, fx_p fsA, fx_k fsA, fx_kn fsA, fx_kd fsA, fx_n fsB, fx_d fsB, fx_i fsB, fx_p fsB, fx_k fsB, fx_kn fsB, fx_kd fsB, fx_n fsI, fx_d fsI, fx_i fsI, fx_p fsI, fx_k fsI, fx_kn fsI, fx_kd fsI, nb0, nb1])
  refine Hx.bd (cw_setTo hp3 hZ hD (Or.inl hI3) (lt_bp hd (by omega))) (fun σ4 v4 h4 => ?_)
  obtain ⟨hF4, hZ⟩ := h4
  have hp4 := hF4.hp
  have hx4 := hx3.kW hF4
  have hG4 := hG3.tr0 hF4 (fun r _ hr => by simp only [s1, s2, s3, sG, sR, sRc] at hr ⊢; omega)
  replace fsA := fsA.kW hF4
  replace fsB := fsB.kW hF4
  replace fsI := fsI.kW hF4
  have sgA := sgA0.kW hG4 ksgA
  have sgB := sgB0.kW hG4 ksgB
  have hN := hN0.kW hG4 khN
  have hD := hD0.kW hG4 khD
  have hM := hM0.kW hG4 khM
  have hE := hE0.kW hG4 khE
  try replace hL := hL.kW hF4 (by first | (simp only [s1, s2, s3, sG, sR, sRc, Nat.add_left_cancel_iff, Nat.reduceEqDiff, or_self, or_false, false_or, not_false_eq_true, Nat.add_le_add_iff_left, Nat.reduceLeDiff, and_false, false_and]; done) | (simp only [s1, s2, s3, sG, sR, sRc]; omega))
  try replace hR := hR.kW hF4 (by first | (simp only [s1, s2, s3, sG, sR, sRc, Nat.add_left_cancel_iff, Nat.reduceEqDiff, or_self, or_false, false_or, not_false_eq_true, Nat.add_le_add_iff_left, Nat.reduceLeDiff, and_false, false_and]; done) | (simp only [s1, s2, s3, sG, sR, sRc]; omega))
  try replace sgI := sgI.kW hF4 (by first | (simp only [s1, s2, s3, sG, sR, sRc, Nat.add_left_cancel_iff, Nat.reduceEqDiff, or_self, or_false, false_or, not_false_eq_true, Nat.add_le_add_iff_left, Nat.reduceLeDiff, and_false, false_and]; done) | (simp only [s1, s2, s3, sG, sR, sRc]; omega))
  try replace hT1 := hT1.kW hF4 (by first | (simp only [s1, s2, s3, sG, sR, sRc, Nat.add_left_cancel_iff, Nat.reduceEqDiff, or_self, or_false, false_or, not_false_eq_true, Nat.add_le_add_iff_left, Nat.reduceLeDiff, and_false, false_and]; done) | (simp only [s1, s2, s3, sG, sR, sRc]; omega))
  (try simp (disch := first | assumption | omega) only [sm_bind, sm_cb, sm_nm, ↓reduceIte, xf_9_0 hx4, xf_9_1 hx4, xf_9_2 hx4, xf_9_3 hx4, xf_9_4 hx4, xf_9_5 hx4, xf_9_6 hx4, xf_9_7 hx4, xf_9_8 hx4, xf_9_9 hx4, xf_9_10 hx4, xf_9_11 hx4, xf_9_12 hx4, xf_9_13 hx4, xf_9_14 hx4, xf_9_15 hx4, xf_9_16 hx4, xf_5_1_45 hx4, xf_5_2_45 hx4, xf_5_1_50 hx4, xf_5_2_50 hx4, xf_5_1_55 hx4, xf_5_2_55 hx4, xf_5_1_60 hx4, xf_5_2_60 hx4, xk_18 hx4, xk_19 hx4, xk_21 hx4, xk_23 hx4, xk_25 hx4, xk_27 hx4, xk_29 hx4, xk_31 hx4, xk_33 hx4, xk_35 hx4, xk_37 hx4, xk_39 hx4, xk_41 hx4, xk_43 hx4, xk_45 hx4, xk_46 hx4, xk_48 hx4, xk_50 hx4, xk_51 hx4, xk_53 hx4, xk_55 hx4, xk_56 hx4, xk_58 hx4, xk_60 hx4, xk_61 hx4, xk_63 hx4, sgA.2, sgB.2, sgI.2, fx_n fsA, fx_d fsA, fx_i fsA, fx_p fsA, fx_k fsA, fx_kn fsA, fx_kd fsA, fx_n fsB, fx_d fsB, fx_i fsB, fx_p fsB, fx_k fsB, fx_kn fsB, fx_kd fsB, fx_n fsI, fx_d fsI, fx_i fsI, fx_p fsI, fx_k fsI, fx_kn fsI, fx_kd fsI, nb0, nb1])
  refine Hx.bd (cw_plus hp4 hZ hE hI3 (by omega) (lt_bp hd (by omega)) (lt_bp hd' (by omega))) (fun σ5 v5 h5 => ?_)
  obtain ⟨hF5, hZ⟩ := h5
  have hp5 := hF5.hp
  have hx5 := hx4.kW hF5
  have hG5 := hG4.tr0 hF5 (fun r _ hr => by simp only [s1, s2, s3, sG, sR, sRc] at hr ⊢; omega)
  replace fsA := fsA.kW hF5
  replace fsB := fsB.kW hF5
  replace fsI := fsI.kW hF5
  have sgA := sgA0.kW hG5 ksgA
  have sgB := sgB0.kW hG5 ksgB
  have hN := hN0.kW hG5 khN
  have hD := hD0.kW hG5 khD
  have hM := hM0.kW hG5 khM
  have hE := hE0.kW hG5 khE
  try replace hL := hL.kW hF5 (by first | (simp only [s1, s2, s3, sG, sR, sRc, Nat.add_left_cancel_iff, Nat.reduceEqDiff, or_self, or_false, false_or, not_false_eq_true, Nat.add_le_add_iff_left, Nat.reduceLeDiff, and_false, false_and]; done) | (simp only [s1, s2, s3, sG, sR, sRc]; omega))
  try replace hR := hR.kW hF5 (by first | (simp only [s1, s2, s3, sG, sR, sRc, Nat.add_left_cancel_iff, Nat.reduceEqDiff, or_self, or_false, false_or, not_false_eq_true, Nat.add_le_add_iff_left, Nat.reduceLeDiff, and_false, false_and]; done) | (simp only [s1, s2, s3, sG, sR, sRc]; omega))
  try replace sgI := sgI.kW hF5 (by first | (simp only [s1, s2, s3, sG, sR, sRc, Nat.add_left_cancel_iff, Nat.reduceEqDiff, or_self, or_false, false_or, not_false_eq_true, Nat.add_le_add_iff_left, Nat.reduceLeDiff, and_false, false_and]; done) | (simp only [s1, s2, s3, sG, sR, sRc]; omega))
  try replace hT1 := hT1.kW hF5 (by first | (simp only [s1, s2, s3, sG, sR, sRc, Nat.add_left_cancel_iff, Nat.reduceEqDiff, or_self, or_false, false_or, not_false_eq_true, Nat.add_le_add_iff_left, Nat.reduceLeDiff, and_false, false_and]; done) | (simp only [s1, s2, s3, sG, sR, sRc]; omega))
  (try simp (disch := first | assumption | omega) only [sm_bind, sm_cb, sm_nm, ↓reduceIte, xf_9_0 hx5, xf_9_1 hx5, xf_9_2 hx5, xf_9_3 hx5, xf_9_4 hx5, xf_9_5 hx5, xf_9_6 hx5, xf_9_7 hx5, xf_9_8 hx5, xf_9_9 hx5, xf_9_10 hx5, xf_9_11 hx5, xf_9_12 hx5, xf_9_13 hx5, xf_9_14 hx5, xf_9_15 hx5, xf_9_16 hx5, xf_5_1_45 hx5, xf_5_2_45 hx5, xf_5_1_50 hx5, xf_5_2_50 hx5, xf_5_1_55 hx5, xf_5_2_55 hx5, xf_5_1_60 hx5, xf_5_2_60 hx5, xk_18 hx5, xk_19 hx5, xk_21 hx5, xk_23 hx5, xk_25 hx5, xk_27 hx5, xk_29 hx5, xk_31 hx5, xk_33 hx5, xk_35 hx5, xk_37 hx5, xk_39 hx5, xk_41 hx5, xk_43 hx5, xk_45 hx5, xk_46 hx5, xk_48 hx5, xk_50 hx5, xk_51 hx5, xk_53 hx5, xk_55 hx5, xk_56 hx5, xk_58 hx5, xk_60 hx5, xk_61 hx5, xk_63 hx5, sgA.2, sgB.2, sgI.2, fx_n fsA, fx_d fsA, fx_i fsA, fx_p fsA, fx_k fsA, fx_kn fsA, fx_kd fsA, fx_n fsB, fx_d fsB, fx_i fsB, fx_p fsB, fx_k fsB, fx_kn fsB, fx_kd fsB, fx_n fsI, fx_d fsI, fx_i fsI, fx_p fsI, fx_k fsI, fx_kn fsI, fx_kd fsI, nb0, nb1])
  exact Hx.ret ⟨hG5, fsI, sgI, hT1, hZ⟩
theorem cr_commonDivisor {x a b into n d n' d' : Nat} {s t : Int} {σ : St} (hp : HP (PX x) σ) (hx : XS σ x) (hA : FX σ a s n d) (hB : FX σ b t n' d') (fsI : FS σ into) (hI : into + 1 ∈ PX x) (hI3 : into + 3 ∈ PX x) (hia : into ≠ a) (hib : into ≠ b) (hax : x + 40 < a ∨ a + 3 < x + 19) (hbx : x + 40 < b ∨ b + 3 < x + 19) (hix : x + 40 < into)
    (hn : sml (n) 200) (hn' : sml (n') 200) :
    Hx (fX5_commonDivisor σ (x + 18) a b into) (fun σ' _ => cW x (sR x into) 0 0 σ σ' ∧ FX σ' into (if Nat.gcd n n' = 0 then 0 else 1) (Nat.gcd n n') 1) := by
  obtain ⟨fsA, sgA, hN, hD⟩ := hA
  obtain ⟨fsB, sgB, hM, hE⟩ := hB
  obtain ⟨z, hZ⟩ := hp.2 _ hI3
  rw [n_fX5_commonDivisor, show nI 1 = iz (1 : Int) from rfl]
  have hG := cW.rf (S := (sR x into)) hp
  (try simp (disch := first | assumption | omega) only [sm_bind, sm_cb, sm_nm, ↓reduceIte, xf_9_0 hx, xf_9_1 hx, xf_9_2 hx, xf_9_3 hx, xf_9_4 hx, xf_9_5 hx, xf_9_6 hx, xf_9_7 hx, xf_9_8 hx, xf_9_9 hx, xf_9_10 hx, xf_9_11 hx, xf_9_12 hx, xf_9_13 hx, xf_9_14 hx, xf_9_15 hx, xf_9_16 hx, xf_5_1_45 hx, xf_5_2_45 hx, xf_5_1_50 hx, xf_5_2_50 hx, xf_5_1_55 hx, xf_5_2_55 hx, xf_5_1_60 hx, xf_5_2_60 hx, xk_18 hx, xk_19 hx, xk_21 hx, xk_23 hx, xk_25 hx, xk_27 hx, xk_29 hx, xk_31 hx, xk_33 hx, xk_35 hx, xk_37 hx, xk_39 hx, xk_41 hx, xk_43 hx, xk_45 hx, xk_46 hx, xk_48 hx, xk_50 hx, xk_51 hx, xk_53 hx, xk_55 hx, xk_56 hx, xk_58 hx, xk_60 hx, xk_61 hx, xk_63 hx, sgA.2, sgB.2, fx_n fsA, fx_d fsA, fx_i fsA, fx_p fsA, fx_k fsA, fx_kn fsA, fx_kd fsA, fx_n fsB, fx_d fsB, fx_i fsB, fx_p fsB, fx_k fsB, fx_kn fsB, fx_kd fsB, fx_n fsI, fx_d fsI, fx_i fsI, fx_p fsI, fx_k fsI, fx_kn fsI, fx_kd fsI, nb0, nb1])
  refine Hx.bd (cw_gcd hp hx hN hM hI (by omega) (by omega) (lt_bp hn (by omega)) (lt_bp hn' (by omega))) (fun σ1 v1 h1 => ?_)
  obtain ⟨hF1, hQ⟩ := h1
  have hp1 := hF1.hp
  have hx1 := hx.kW hF1
  have hG1 := hG.tr0 hF1 (fun r _ hr => by simp only [s1, s2, s3, sG, sR, sRc] at hr ⊢; omega)
  replace fsA := fsA.kW hF1
  replace fsB := fsB.kW hF1
  replace fsI := fsI.kW hF1
  try replace sgA := sgA.kW hF1 (by first | (simp only [s1, s2, s3, sG, sR, sRc, Nat.add_left_cancel_iff, Nat.reduceEqDiff, or_self, or_false, false_or, not_false_eq_true, Nat.add_le_add_iff_left, Nat.reduceLeDiff, and_false, false_and]; done) | (simp only [s1, s2, s3, sG, sR, sRc]; omega))
  try replace sgB := sgB.kW hF1 (by first | (simp only [s1, s2, s3, sG, sR, sRc, Nat.add_left_cancel_iff, Nat.reduceEqDiff, or_self, or_false, false_or, not_false_eq_true, Nat.add_le_add_iff_left, Nat.reduceLeDiff, and_false, false_and]; done) | (simp only [s1, s2, s3, sG, sR, sRc]; omega))
  try replace hN := hN.kW hF1 (by first | (simp only [s1, s2, s3, sG, sR, sRc, Nat.add_left_cancel_iff, Nat.reduceEqDiff, or_self, or_false, false_or, not_false_eq_true, Nat.add_le_add_iff_left, Nat.reduceLeDiff, and_false, false_and]; done) | (simp only [s1, s2, s3, sG, sR, sRc]; omega))
  try replace hM := hM.kW hF1 (by first | (simp only [s1, s2, s3, sG, sR, sRc, Nat.add_left_cancel_iff, Nat.reduceEqDiff, or_self, or_false, false_or, not_false_eq_true, Nat.add_le_add_iff_left, Nat.reduceLeDiff, and_false, false_and]; done) | (simp only [s1, s2, s3, sG, sR, sRc]; omega))
  try replace hZ := hZ.kW hF1 (by first | (simp only [s1, s2, s3, sG, sR, sRc, Nat.add_left_cancel_iff, Nat.reduceEqDiff, or_self, or_false, false_or, not_false_eq_true, Nat.add_le_add_iff_left, Nat.reduceLeDiff, and_false, false_and]; done) | (simp only [s1, s2, s3, sG, sR, sRc]; omega))
  (try simp (disch := first | assumption | omega) only [sm_bind, sm_cb, sm_nm, ↓reduceIte, xf_9_0 hx1, xf_9_1 hx1, xf_9_2 hx1, xf_9_3 hx1, xf_9_4 hx1, xf_9_5 hx1, xf_9_6 hx1, xf_9_7 hx1, xf_9_8 hx1, xf_9_9 hx1, xf_9_10 hx1, xf_9_11 hx1, xf_9_12 hx1, xf_9_13 hx1, xf_9_14 hx1, xf_9_15 hx1, xf_9_16 hx1, xf_5_1_45 hx1, xf_5_2_45 hx1, xf_5_1_50 hx1, xf_5_2_50 hx1, xf_5_1_55 hx1, xf_5_2_55 hx1, xf_5_1_60 hx1, xf_5_2_60 hx1, xk_18 hx1, xk_19 hx1, xk_21 hx1, xk_23 hx1, xk_25 hx1, xk_27 hx1, xk_29 hx1, xk_31 hx1, xk_33 hx1, xk_35 hx1, xk_37 hx1, xk_39 hx1, xk_41 hx1, xk_43 hx1, xk_45 hx1, xk_46 hx1, xk_48 hx1, xk_50 hx1, xk_51 hx1, xk_53 hx1, xk_55 hx1, xk_56 hx1, xk_58 hx1, xk_60 hx1, xk_61 hx1, xk_63 hx1, sgA.2, sgB.2, fx_n fsA, fx_d fsA, fx_i fsA, fx_p fsA, fx_k fsA, fx_kn fsA, fx_kd fsA, fx_n fsB, fx_d fsB, fx_i fsB, fx_p fsB, fx_k fsB, fx_kn fsB, fx_kd fsB, fx_n fsI, fx_d fsI, fx_i fsI, fx_p fsI, fx_k fsI, fx_kn fsI, fx_kd fsI, nb0, nb1])
  refine Hx.bd (cw_setSmall hp1 hZ (by omega)) (fun σ2 v2 h2 => ?_)
  obtain ⟨hF2, hZ⟩ := h2
  have hp2 := hF2.hp
  have hx2 := hx1.kW hF2
  have hG2 := hG1.tr0 hF2 (fun r _ hr => by simp only [s1, s2, s3, sG, sR, sRc] at hr ⊢; omega)
  replace fsA := fsA.kW hF2
  replace fsB := fsB.kW hF2
  replace fsI := fsI.kW hF2
  try replace sgA := sgA.kW hF2 (by first | (simp only [s1, s2, s3, sG, sR, sRc, Nat.add_left_cancel_iff, Nat.reduceEqDiff, or_self, or_false, false_or, not_false_eq_true, Nat.add_le_add_iff_left, Nat.reduceLeDiff, and_false, false_and]; done) | (simp only [s1, s2, s3, sG, sR, sRc]; omega))
  try replace sgB := sgB.kW hF2 (by first | (simp only [s1, s2, s3, sG, sR, sRc, Nat.add_left_cancel_iff, Nat.reduceEqDiff, or_self, or_false, false_or, not_false_eq_true, Nat.add_le_add_iff_left, Nat.reduceLeDiff, and_false, false_and]; done) | (simp only [s1, s2, s3, sG, sR, sRc]; omega))
  try replace hN := hN.kW hF2 (by first | (simp only [s1, s2, s3, sG, sR, sRc, Nat.add_left_cancel_iff, Nat.reduceEqDiff, or_self, or_false, false_or, not_false_eq_true, Nat.add_le_add_iff_left, Nat.reduceLeDiff, and_false, false_and]; done) | (simp only [s1, s2, s3, sG, sR, sRc]; omega))
  try replace hM := hM.kW hF2 (by first | (simp only [s1, s2, s3, sG, sR, sRc, Nat.add_left_cancel_iff, Nat.reduceEqDiff, or_self, or_false, false_or, not_false_eq_true, Nat.add_le_add_iff_left, Nat.reduceLeDiff, and_false, false_and]; done) | (simp only [s1, s2, s3, sG, sR, sRc]; omega))
  try replace hQ := hQ.kW hF2 (by first | (simp only [s1, s2, s3, sG, sR, sRc, Nat.add_left_cancel_iff, Nat.reduceEqDiff, or_self, or_false, false_or, not_false_eq_true, Nat.add_le_add_iff_left, Nat.reduceLeDiff, and_false, false_and]; done) | (simp only [s1, s2, s3, sG, sR, sRc]; omega))
  (try simp (disch := first | assumption | omega) only [sm_bind, sm_cb, sm_nm, ↓reduceIte, xf_9_0 hx2, xf_9_1 hx2, xf_9_2 hx2, xf_9_3 hx2, xf_9_4 hx2, xf_9_5 hx2, xf_9_6 hx2, xf_9_7 hx2, xf_9_8 hx2, xf_9_9 hx2, xf_9_10 hx2, xf_9_11 hx2, xf_9_12 hx2, xf_9_13 hx2, xf_9_14 hx2, xf_9_15 hx2, xf_9_16 hx2, xf_5_1_45 hx2, xf_5_2_45 hx2, xf_5_1_50 hx2, xf_5_2_50 hx2, xf_5_1_55 hx2, xf_5_2_55 hx2, xf_5_1_60 hx2, xf_5_2_60 hx2, xk_18 hx2, xk_19 hx2, xk_21 hx2, xk_23 hx2, xk_25 hx2, xk_27 hx2, xk_29 hx2, xk_31 hx2, xk_33 hx2, xk_35 hx2, xk_37 hx2, xk_39 hx2, xk_41 hx2, xk_43 hx2, xk_45 hx2, xk_46 hx2, xk_48 hx2, xk_50 hx2, xk_51 hx2, xk_53 hx2, xk_55 hx2, xk_56 hx2, xk_58 hx2, xk_60 hx2, xk_61 hx2, xk_63 hx2, sgA.2, sgB.2, fx_n fsA, fx_d fsA, fx_i fsA, fx_p fsA, fx_k fsA, fx_kn fsA, fx_kd fsA, fx_n fsB, fx_d fsB, fx_i fsB, fx_p fsB, fx_k fsB, fx_kn fsB, fx_kd fsB, fx_n fsI, fx_d fsI, fx_i fsI, fx_p fsI, fx_k fsI, fx_kn fsI, fx_kd fsI, nb0, nb1])
  refine Hx.bd (cf_setSign hp2 fsI hQ) (fun σ3 v3 h3 => ?_)
  obtain ⟨hF3, sgI⟩ := h3
  have hp3 := hF3.hp
  have hx3 := hx2.kW hF3
  have hG3 := hG2.tr0 hF3 (fun r _ hr => by simp only [s1, s2, s3, sG, sR, sRc] at hr ⊢; omega)
  replace fsA := fsA.kW hF3
  replace fsB := fsB.kW hF3
  replace fsI := fsI.kW hF3
  try replace sgA := sgA.kW hF3 (by first | (simp only [s1, s2, s3, sG, sR, sRc, Nat.add_left_cancel_iff, Nat.reduceEqDiff, or_self, or_false, false_or, not_false_eq_true, Nat.add_le_add_iff_left, Nat.reduceLeDiff, and_false, false_and]; done) | (simp only [s1, s2, s3, sG, sR, sRc]; omega))
  try replace sgB := sgB.kW hF3 (by first | (simp only [s1, s2, s3, sG, sR, sRc, Nat.add_left_cancel_iff, Nat.reduceEqDiff, or_self, or_false, false_or, not_false_eq_true, Nat.add_le_add_iff_left, Nat.reduceLeDiff, and_false, false_and]; done) | (simp only [s1, s2, s3, sG, sR, sRc]; omega))
  try replace hN := hN.kW hF3 (by first | (simp only [s1, s2, s3, sG, sR, sRc, Nat.add_left_cancel_iff, Nat.reduceEqDiff, or_self, or_false, false_or, not_false_eq_true, Nat.add_le_add_iff_left, Nat.reduceLeDiff, and_false, false_and]; done) | (simp only [s1, s2, s3, sG, sR, sRc]; omega))
  try replace hM := hM.kW hF3 (by first | (simp only [s1, s2, s3, sG, sR, sRc, Nat.add_left_cancel_iff, Nat.reduceEqDiff, or_self, or_false, false_or, not_false_eq_true, Nat.add_le_add_iff_left, Nat.reduceLeDiff, and_false, false_and]; done) | (simp only [s1, s2, s3, sG, sR, sRc]; omega))
  try replace hZ := hZ.kW hF3 (by first | (simp only [s1, s2, s3, sG, sR, sRc, Nat.add_left_cancel_iff, Nat.reduceEqDiff, or_self, or_false, false_or, not_false_eq_true, Nat.add_le_add_iff_left, Nat.reduceLeDiff, and_false, false_and]; done) | (simp only [s1, s2, s3, sG, sR, sRc]; omega))
  try replace hQ := hQ.kW hF3 (by first | (simp only [s1, s2, s3, sG, sR, sRc, Nat.add_left_cancel_iff, Nat.reduceEqDiff, or_self, or_false, false_or, not_false_eq_true, Nat.add_le_add_iff_left, Nat.reduceLeDiff, and_false, false_and]; done) | (simp only [s1, s2, s3, sG, sR, sRc]; omega))
  (try simp (disch := first | assumption | omega) only [sm_bind, sm_cb, sm_nm, ↓reduceIte, xf_9_0 hx3, xf_9_1 hx3, xf_9_2 hx3, xf_9_3 hx3, xf_9_4 hx3, xf_9_5 hx3, xf_9_6 hx3, xf_9_7 hx3, xf_9_8 hx3, xf_9_9 hx3, xf_9_10 hx3, xf_9_11 hx3, xf_9_12 hx3, xf_9_13 hx3, xf_9_14 hx3, xf_9_15 hx3, xf_9_16 hx3, xf_5_1_45 hx3, xf_5_2_45 hx3, xf_5_1_50 hx3, xf_5_2_50 hx3, xf_5_1_55 hx3, xf_5_2_55 hx3, xf_5_1_60 hx3, xf_5_2_60 hx3, xk_18 hx3, xk_19 hx3, xk_21 hx3, xk_23 hx3, xk_25 hx3, xk_27 hx3, xk_29 hx3, xk_31 hx3, xk_33 hx3, xk_35 hx3, xk_37 hx3, xk_39 hx3, xk_41 hx3, xk_43 hx3, xk_45 hx3, xk_46 hx3, xk_48 hx3, xk_50 hx3, xk_51 hx3, xk_53 hx3, xk_55 hx3, xk_56 hx3, xk_58 hx3, xk_60 hx3, xk_61 hx3, xk_63 hx3, sgA.2, sgB.2, sgI.2, fx_n fsA, fx_d fsA, fx_i fsA, fx_p fsA, fx_k fsA, fx_kn fsA, fx_kd fsA, fx_n fsB, fx_d fsB, fx_i fsB, fx_p fsB, fx_k fsB, fx_kn fsB, fx_kd fsB, fx_n fsI, fx_d fsI, fx_i fsI, fx_p fsI, fx_k fsI, fx_kn fsI, fx_kd fsI, nb0, nb1])
  exact Hx.ret ⟨hG3, fsI, sgI, hQ, hZ⟩
theorem cr_commonMultiple {x a b into n d n' d' : Nat} {s t : Int} {σ : St} (hp : HP (PX x) σ) (hx : XS σ x) (hA : FX σ a s n d) (hB : FX σ b t n' d') (fsI : FS σ into) (hI : into + 1 ∈ PX x) (hI3 : into + 3 ∈ PX x) (hia : into ≠ a) (hib : into ≠ b) (hax : x + 40 < a ∨ a + 3 < x + 19) (hbx : x + 40 < b ∨ b + 3 < x + 19) (hix : x + 40 < into)
    (hn : sml (n) 200) (hn' : sml (n') 200) :
    Hx (fX5_commonMultiple σ (x + 18) a b into) (fun σ' _ => cW x (sR x into) 0 0 σ σ' ∧ FX σ' into (if lcq n n' = 0 then 0 else 1) (lcq n n') 1) := by
  obtain ⟨fsA, sgA, hN, hD⟩ := hA
  obtain ⟨fsB, sgB, hM, hE⟩ := hB
  have nea := fsI.ne fsA hia
  have neb := fsI.ne fsB hib
  obtain ⟨z, hZ⟩ := hp.2 _ hI3
  rw [n_fX5_commonMultiple, show nI 1 = iz (1 : Int) from rfl]
  have hG := cW.rf (S := (sR x into)) hp
  (try simp (disch := first | assumption | omega) only [sm_bind, sm_cb, sm_nm, ↓reduceIte, xf_9_0 hx, xf_9_1 hx, xf_9_2 hx, xf_9_3 hx, xf_9_4 hx, xf_9_5 hx, xf_9_6 hx, xf_9_7 hx, xf_9_8 hx, xf_9_9 hx, xf_9_10 hx, xf_9_11 hx, xf_9_12 hx, xf_9_13 hx, xf_9_14 hx, xf_9_15 hx, xf_9_16 hx, xf_5_1_45 hx, xf_5_2_45 hx, xf_5_1_50 hx, xf_5_2_50 hx, xf_5_1_55 hx, xf_5_2_55 hx, xf_5_1_60 hx, xf_5_2_60 hx, xk_18 hx, xk_19 hx, xk_21 hx, xk_23 hx, xk_25 hx, xk_27 hx, xk_29 hx, xk_31 hx, xk_33 hx, xk_35 hx, xk_37 hx, xk_39 hx, xk_41 hx, xk_43 hx, xk_45 hx, xk_46 hx, xk_48 hx, xk_50 hx, xk_51 hx, xk_53 hx, xk_55 hx, xk_56 hx, xk_58 hx, xk_60 hx, xk_61 hx, xk_63 hx, sgA.2, sgB.2, fx_n fsA, fx_d fsA, fx_i fsA, fx_p fsA, fx_k fsA, fx_kn fsA, fx_kd fsA, fx_n fsB, fx_d fsB, fx_i fsB, fx_p fsB, fx_k fsB, fx_kn fsB, fx_kd fsB, fx_n fsI, fx_d fsI, fx_i fsI, fx_p fsI, fx_k fsI, fx_kn fsI, fx_kd fsI, nb0, nb1])
  refine Hx.bd (cw_gcd hp hx hN hM (show x + 29 ∈ PX x by simp) (by omega) (by omega) (lt_bp hn (by omega)) (lt_bp hn' (by omega))) (fun σ1 v1 h1 => ?_)
  obtain ⟨hF1, hC⟩ := h1
  have hp1 := hF1.hp
  have hx1 := hx.kW hF1
  have hG1 := hG.tr0 hF1 (fun r _ hr => by simp only [s1, s2, s3, sG, sR, sRc] at hr ⊢; omega)
  replace fsA := fsA.kW hF1
  replace fsB := fsB.kW hF1
  replace fsI := fsI.kW hF1
  try replace sgA := sgA.kW hF1 (by first | (simp only [s1, s2, s3, sG, sR, sRc, Nat.add_left_cancel_iff, Nat.reduceEqDiff, or_self, or_false, false_or, not_false_eq_true, Nat.add_le_add_iff_left, Nat.reduceLeDiff, and_false, false_and]; done) | (simp only [s1, s2, s3, sG, sR, sRc]; omega))
  try replace sgB := sgB.kW hF1 (by first | (simp only [s1, s2, s3, sG, sR, sRc, Nat.add_left_cancel_iff, Nat.reduceEqDiff, or_self, or_false, false_or, not_false_eq_true, Nat.add_le_add_iff_left, Nat.reduceLeDiff, and_false, false_and]; done) | (simp only [s1, s2, s3, sG, sR, sRc]; omega))
  try replace hN := hN.kW hF1 (by first | (simp only [s1, s2, s3, sG, sR, sRc, Nat.add_left_cancel_iff, Nat.reduceEqDiff, or_self, or_false, false_or, not_false_eq_true, Nat.add_le_add_iff_left, Nat.reduceLeDiff, and_false, false_and]; done) | (simp only [s1, s2, s3, sG, sR, sRc]; omega))
  try replace hM := hM.kW hF1 (by first | (simp only [s1, s2, s3, sG, sR, sRc, Nat.add_left_cancel_iff, Nat.reduceEqDiff, or_self, or_false, false_or, not_false_eq_true, Nat.add_le_add_iff_left, Nat.reduceLeDiff, and_false, false_and]; done) | (simp only [s1, s2, s3, sG, sR, sRc]; omega))
  try replace hZ := hZ.kW hF1 (by first | (simp only [s1, s2, s3, sG, sR, sRc, Nat.add_left_cancel_iff, Nat.reduceEqDiff, or_self, or_false, false_or, not_false_eq_true, Nat.add_le_add_iff_left, Nat.reduceLeDiff, and_false, false_and]; done) | (simp only [s1, s2, s3, sG, sR, sRc]; omega))
  (try simp (disch := first | assumption | omega) only [sm_bind, sm_cb, sm_nm, ↓reduceIte, xf_9_0 hx1, xf_9_1 hx1, xf_9_2 hx1, xf_9_3 hx1, xf_9_4 hx1, xf_9_5 hx1, xf_9_6 hx1, xf_9_7 hx1, xf_9_8 hx1, xf_9_9 hx1, xf_9_10 hx1, xf_9_11 hx1, xf_9_12 hx1, xf_9_13 hx1, xf_9_14 hx1, xf_9_15 hx1, xf_9_16 hx1, xf_5_1_45 hx1, xf_5_2_45 hx1, xf_5_1_50 hx1, xf_5_2_50 hx1, xf_5_1_55 hx1, xf_5_2_55 hx1, xf_5_1_60 hx1, xf_5_2_60 hx1, xk_18 hx1, xk_19 hx1, xk_21 hx1, xk_23 hx1, xk_25 hx1, xk_27 hx1, xk_29 hx1, xk_31 hx1, xk_33 hx1, xk_35 hx1, xk_37 hx1, xk_39 hx1, xk_41 hx1, xk_43 hx1, xk_45 hx1, xk_46 hx1, xk_48 hx1, xk_50 hx1, xk_51 hx1, xk_53 hx1, xk_55 hx1, xk_56 hx1, xk_58 hx1, xk_60 hx1, xk_61 hx1, xk_63 hx1, sgA.2, sgB.2, fx_n fsA, fx_d fsA, fx_i fsA, fx_p fsA, fx_k fsA, fx_kn fsA, fx_kd fsA, fx_n fsB, fx_d fsB, fx_i fsB, fx_p fsB, fx_k fsB, fx_kn fsB, fx_kd fsB, fx_n fsI, fx_d fsI, fx_i fsI, fx_p fsI, fx_k fsI, fx_kn fsI, fx_kd fsI, nb0, nb1])
  refine Hx.bd (cw_divide hp1 hx1 hN hC (show x + 33 ∈ PX x by simp) (show x + 23 ∈ PX x by simp) (lt_bp hn (by omega)) (by omega)) (fun σ2 v2 h2 => ?_)
  obtain ⟨hF2, hP1, _⟩ := h2
  have hp2 := hF2.hp
  have hx2 := hx1.kW hF2
  have hG2 := hG1.tr0 hF2 (fun r _ hr => by simp only [s1, s2, s3, sG, sR, sRc] at hr ⊢; omega)
  replace fsA := fsA.kW hF2
  replace fsB := fsB.kW hF2
  replace fsI := fsI.kW hF2
  try replace sgA := sgA.kW hF2 (by first | (simp only [s1, s2, s3, sG, sR, sRc, Nat.add_left_cancel_iff, Nat.reduceEqDiff, or_self, or_false, false_or, not_false_eq_true, Nat.add_le_add_iff_left, Nat.reduceLeDiff, and_false, false_and]; done) | (simp only [s1, s2, s3, sG, sR, sRc]; omega))
  try replace sgB := sgB.kW hF2 (by first | (simp only [s1, s2, s3, sG, sR, sRc, Nat.add_left_cancel_iff, Nat.reduceEqDiff, or_self, or_false, false_or, not_false_eq_true, Nat.add_le_add_iff_left, Nat.reduceLeDiff, and_false, false_and]; done) | (simp only [s1, s2, s3, sG, sR, sRc]; omega))
  try replace hN := hN.kW hF2 (by first | (simp only [s1, s2, s3, sG, sR, sRc, Nat.add_left_cancel_iff, Nat.reduceEqDiff, or_self, or_false, false_or, not_false_eq_true, Nat.add_le_add_iff_left, Nat.reduceLeDiff, and_false, false_and]; done) | (simp only [s1, s2, s3, sG, sR, sRc]; omega))
  try replace hM := hM.kW hF2 (by first | (simp only [s1, s2, s3, sG, sR, sRc, Nat.add_left_cancel_iff, Nat.reduceEqDiff, or_self, or_false, false_or, not_false_eq_true, Nat.add_le_add_iff_left, Nat.reduceLeDiff, and_false, false_and]; done) | (simp only [s1, s2, s3, sG, sR, sRc]; omega))
  try replace hZ := hZ.kW hF2 (by first | (simp only [s1, s2, s3, sG, sR, sRc, Nat.add_left_cancel_iff, Nat.reduceEqDiff, or_self, or_false, false_or, not_false_eq_true, Nat.add_le_add_iff_left, Nat.reduceLeDiff, and_false, false_and]; done) | (simp only [s1, s2, s3, sG, sR, sRc]; omega))
  try replace hC := hC.kW hF2 (by first | (simp only [s1, s2, s3, sG, sR, sRc, Nat.add_left_cancel_iff, Nat.reduceEqDiff, or_self, or_false, false_or, not_false_eq_true, Nat.add_le_add_iff_left, Nat.reduceLeDiff, and_false, false_and]; done) | (simp only [s1, s2, s3, sG, sR, sRc]; omega))
  (try simp (disch := first | assumption | omega) only [sm_bind, sm_cb, sm_nm, ↓reduceIte, xf_9_0 hx2, xf_9_1 hx2, xf_9_2 hx2, xf_9_3 hx2, xf_9_4 hx2, xf_9_5 hx2, xf_9_6 hx2, xf_9_7 hx2, xf_9_8 hx2, xf_9_9 hx2, xf_9_10 hx2, xf_9_11 hx2, xf_9_12 hx2, xf_9_13 hx2, xf_9_14 hx2, xf_9_15 hx2, xf_9_16 hx2, xf_5_1_45 hx2, xf_5_2_45 hx2, xf_5_1_50 hx2, xf_5_2_50 hx2, xf_5_1_55 hx2, xf_5_2_55 hx2, xf_5_1_60 hx2, xf_5_2_60 hx2, xk_18 hx2, xk_19 hx2, xk_21 hx2, xk_23 hx2, xk_25 hx2, xk_27 hx2, xk_29 hx2, xk_31 hx2, xk_33 hx2, xk_35 hx2, xk_37 hx2, xk_39 hx2, xk_41 hx2, xk_43 hx2, xk_45 hx2, xk_46 hx2, xk_48 hx2, xk_50 hx2, xk_51 hx2, xk_53 hx2, xk_55 hx2, xk_56 hx2, xk_58 hx2, xk_60 hx2, xk_61 hx2, xk_63 hx2, sgA.2, sgB.2, fx_n fsA, fx_d fsA, fx_i fsA, fx_p fsA, fx_k fsA, fx_kn fsA, fx_kd fsA, fx_n fsB, fx_d fsB, fx_i fsB, fx_p fsB, fx_k fsB, fx_kn fsB, fx_kd fsB, fx_n fsI, fx_d fsI, fx_i fsI, fx_p fsI, fx_k fsI, fx_kn fsI, fx_kd fsI, nb0, nb1])
  refine Hx.bd (cw_setProduct hp2 hP1 hM hI (by omega) (by omega) (lt_bp (bp_dvd _ hn) (by omega)) (lt_bp hn' (by omega))) (fun σ3 v3 h3 => ?_)
  obtain ⟨hF3, hQ⟩ := h3
  have hp3 := hF3.hp
  have hx3 := hx2.kW hF3
  have hG3 := hG2.tr0 hF3 (fun r _ hr => by simp only [s1, s2, s3, sG, sR, sRc] at hr ⊢; omega)
  replace fsA := fsA.kW hF3
  replace fsB := fsB.kW hF3
  replace fsI := fsI.kW hF3
  try replace sgA := sgA.kW hF3 (by first | (simp only [s1, s2, s3, sG, sR, sRc, Nat.add_left_cancel_iff, Nat.reduceEqDiff, or_self, or_false, false_or, not_false_eq_true, Nat.add_le_add_iff_left, Nat.reduceLeDiff, and_false, false_and]; done) | (simp only [s1, s2, s3, sG, sR, sRc]; omega))
  try replace sgB := sgB.kW hF3 (by first | (simp only [s1, s2, s3, sG, sR, sRc, Nat.add_left_cancel_iff, Nat.reduceEqDiff, or_self, or_false, false_or, not_false_eq_true, Nat.add_le_add_iff_left, Nat.reduceLeDiff, and_false, false_and]; done) | (simp only [s1, s2, s3, sG, sR, sRc]; omega))
  try replace hN := hN.kW hF3 (by first | (simp only [s1, s2, s3, sG, sR, sRc, Nat.add_left_cancel_iff, Nat.reduceEqDiff, or_self, or_false, false_or, not_false_eq_true, Nat.add_le_add_iff_left, Nat.reduceLeDiff, and_false, false_and]; done) | (simp only [s1, s2, s3, sG, sR, sRc]; omega))
  try replace hM := hM.kW hF3 (by first | (simp only [s1, s2, s3, sG, sR, sRc, Nat.add_left_cancel_iff, Nat.reduceEqDiff, or_self, or_false, false_or, not_false_eq_true, Nat.add_le_add_iff_left, Nat.reduceLeDiff, and_false, false_and]; done) | (simp only [s1, s2, s3, sG, sR, sRc]; omega))
  try replace hZ := hZ.kW hF3 (by first | (simp only [s1, s2, s3, sG, sR, sRc, Nat.add_left_cancel_iff, Nat.reduceEqDiff, or_self, or_false, false_or, not_false_eq_true, Nat.add_le_add_iff_left, Nat.reduceLeDiff, and_false, false_and]; done) | (simp only [s1, s2, s3, sG, sR, sRc]; omega))
  try replace hC := hC.kW hF3 (by first | (simp only [s1, s2, s3, sG, sR, sRc, Nat.add_left_cancel_iff, Nat.reduceEqDiff, or_self, or_false, false_or, not_false_eq_true, Nat.add_le_add_iff_left, Nat.reduceLeDiff, and_false, false_and]; done) | (simp only [s1, s2, s3, sG, sR, sRc]; omega))
  try replace hP1 := hP1.kW hF3 (by first | (simp only [s1, s2, s3, sG, sR, sRc, Nat.add_left_cancel_iff, Nat.reduceEqDiff, or_self, or_false, false_or, not_false_eq_true, Nat.add_le_add_iff_left, Nat.reduceLeDiff, and_false, false_and]; done) | (simp only [s1, s2, s3, sG, sR, sRc]; omega))
  (try simp (disch := first | assumption | omega) only [sm_bind, sm_cb, sm_nm, ↓reduceIte, xf_9_0 hx3, xf_9_1 hx3, xf_9_2 hx3, xf_9_3 hx3, xf_9_4 hx3, xf_9_5 hx3, xf_9_6 hx3, xf_9_7 hx3, xf_9_8 hx3, xf_9_9 hx3, xf_9_10 hx3, xf_9_11 hx3, xf_9_12 hx3, xf_9_13 hx3, xf_9_14 hx3, xf_9_15 hx3, xf_9_16 hx3, xf_5_1_45 hx3, xf_5_2_45 hx3, xf_5_1_50 hx3, xf_5_2_50 hx3, xf_5_1_55 hx3, xf_5_2_55 hx3, xf_5_1_60 hx3, xf_5_2_60 hx3, xk_18 hx3, xk_19 hx3, xk_21 hx3, xk_23 hx3, xk_25 hx3, xk_27 hx3, xk_29 hx3, xk_31 hx3, xk_33 hx3, xk_35 hx3, xk_37 hx3, xk_39 hx3, xk_41 hx3, xk_43 hx3, xk_45 hx3, xk_46 hx3, xk_48 hx3, xk_50 hx3, xk_51 hx3, xk_53 hx3, xk_55 hx3, xk_56 hx3, xk_58 hx3, xk_60 hx3, xk_61 hx3, xk_63 hx3, sgA.2, sgB.2, fx_n fsA, fx_d fsA, fx_i fsA, fx_p fsA, fx_k fsA, fx_kn fsA, fx_kd fsA, fx_n fsB, fx_d fsB, fx_i fsB, fx_p fsB, fx_k fsB, fx_kn fsB, fx_kd fsB, fx_n fsI, fx_d fsI, fx_i fsI, fx_p fsI, fx_k fsI, fx_kn fsI, fx_kd fsI, nb0, nb1])
  refine Hx.bd (cw_setSmall hp3 hZ (by omega)) (fun σ4 v4 h4 => ?_)
  obtain ⟨hF4, hZ⟩ := h4
  have hp4 := hF4.hp
  have hx4 := hx3.kW hF4
  have hG4 := hG3.tr0 hF4 (fun r _ hr => by simp only [s1, s2, s3, sG, sR, sRc] at hr ⊢; omega)
  replace fsA := fsA.kW hF4
  replace fsB := fsB.kW hF4
  replace fsI := fsI.kW hF4
  try replace sgA := sgA.kW hF4 (by first | (simp only [s1, s2, s3, sG, sR, sRc, Nat.add_left_cancel_iff, Nat.reduceEqDiff, or_self, or_false, false_or, not_false_eq_true, Nat.add_le_add_iff_left, Nat.reduceLeDiff, and_false, false_and]; done) | (simp only [s1, s2, s3, sG, sR, sRc]; omega))
  try replace sgB := sgB.kW hF4 (by first | (simp only [s1, s2, s3, sG, sR, sRc, Nat.add_left_cancel_iff, Nat.reduceEqDiff, or_self, or_false, false_or, not_false_eq_true, Nat.add_le_add_iff_left, Nat.reduceLeDiff, and_false, false_and]; done) | (simp only [s1, s2, s3, sG, sR, sRc]; omega))
  try replace hN := hN.kW hF4 (by first | (simp only [s1, s2, s3, sG, sR, sRc, Nat.add_left_cancel_iff, Nat.reduceEqDiff, or_self, or_false, false_or, not_false_eq_true, Nat.add_le_add_iff_left, Nat.reduceLeDiff, and_false, false_and]; done) | (simp only [s1, s2, s3, sG, sR, sRc]; omega))
  try replace hM := hM.kW hF4 (by first | (simp only [s1, s2, s3, sG, sR, sRc, Nat.add_left_cancel_iff, Nat.reduceEqDiff, or_self, or_false, false_or, not_false_eq_true, Nat.add_le_add_iff_left, Nat.reduceLeDiff, and_false, false_and]; done) | (simp only [s1, s2, s3, sG, sR, sRc]; omega))
  try replace hC := hC.kW hF4 (by first | (simp only [s1, s2, s3, sG, sR, sRc, Nat.add_left_cancel_iff, Nat.reduceEqDiff, or_self, or_false, false_or, not_false_eq_true, Nat.add_le_add_iff_left, Nat.reduceLeDiff, and_false, false_and]; done) | (simp only [s1, s2, s3, sG, sR, sRc]; omega))
  try replace hP1 := hP1.kW hF4 (by first | (simp only [s1, s2, s3, sG, sR, sRc, Nat.add_left_cancel_iff, Nat.reduceEqDiff, or_self, or_false, false_or, not_false_eq_true, Nat.add_le_add_iff_left, Nat.reduceLeDiff, and_false, false_and]; done) | (simp only [s1, s2, s3, sG, sR, sRc]; omega))
  try replace hQ := hQ.kW hF4 (by first | (simp only [s1, s2, s3, sG, sR, sRc, Nat.add_left_cancel_iff, Nat.reduceEqDiff, or_self, or_false, false_or, not_false_eq_true, Nat.add_le_add_iff_left, Nat.reduceLeDiff, and_false, false_and]; done) | (simp only [s1, s2, s3, sG, sR, sRc]; omega))
  (try simp (disch := first | assumption | omega) only [sm_bind, sm_cb, sm_nm, ↓reduceIte, xf_9_0 hx4, xf_9_1 hx4, xf_9_2 hx4, xf_9_3 hx4, xf_9_4 hx4, xf_9_5 hx4, xf_9_6 hx4, xf_9_7 hx4, xf_9_8 hx4, xf_9_9 hx4, xf_9_10 hx4, xf_9_11 hx4, xf_9_12 hx4, xf_9_13 hx4, xf_9_14 hx4, xf_9_15 hx4, xf_9_16 hx4, xf_5_1_45 hx4, xf_5_2_45 hx4, xf_5_1_50 hx4, xf_5_2_50 hx4, xf_5_1_55 hx4, xf_5_2_55 hx4, xf_5_1_60 hx4, xf_5_2_60 hx4, xk_18 hx4, xk_19 hx4, xk_21 hx4, xk_23 hx4, xk_25 hx4, xk_27 hx4, xk_29 hx4, xk_31 hx4, xk_33 hx4, xk_35 hx4, xk_37 hx4, xk_39 hx4, xk_41 hx4, xk_43 hx4, xk_45 hx4, xk_46 hx4, xk_48 hx4, xk_50 hx4, xk_51 hx4, xk_53 hx4, xk_55 hx4, xk_56 hx4, xk_58 hx4, xk_60 hx4, xk_61 hx4, xk_63 hx4, sgA.2, sgB.2, fx_n fsA, fx_d fsA, fx_i fsA, fx_p fsA, fx_k fsA, fx_kn fsA, fx_kd fsA, fx_n fsB, fx_d fsB, fx_i fsB, fx_p fsB, fx_k fsB, fx_kn fsB, fx_kd fsB, fx_n fsI, fx_d fsI, fx_i fsI, fx_p fsI, fx_k fsI, fx_kn fsI, fx_kd fsI, nb0, nb1])
  refine Hx.bd (cf_setSign hp4 fsI hQ) (fun σ5 v5 h5 => ?_)
  obtain ⟨hF5, sgI⟩ := h5
  have hp5 := hF5.hp
  have hx5 := hx4.kW hF5
  have hG5 := hG4.tr0 hF5 (fun r _ hr => by simp only [s1, s2, s3, sG, sR, sRc] at hr ⊢; omega)
  replace fsA := fsA.kW hF5
  replace fsB := fsB.kW hF5
  replace fsI := fsI.kW hF5
  try replace sgA := sgA.kW hF5 (by first | (simp only [s1, s2, s3, sG, sR, sRc, Nat.add_left_cancel_iff, Nat.reduceEqDiff, or_self, or_false, false_or, not_false_eq_true, Nat.add_le_add_iff_left, Nat.reduceLeDiff, and_false, false_and]; done) | (simp only [s1, s2, s3, sG, sR, sRc]; omega))
  try replace sgB := sgB.kW hF5 (by first | (simp only [s1, s2, s3, sG, sR, sRc, Nat.add_left_cancel_iff, Nat.reduceEqDiff, or_self, or_false, false_or, not_false_eq_true, Nat.add_le_add_iff_left, Nat.reduceLeDiff, and_false, false_and]; done) | (simp only [s1, s2, s3, sG, sR, sRc]; omega))
  try replace hN := hN.kW hF5 (by first | (simp only [s1, s2, s3, sG, sR, sRc, Nat.add_left_cancel_iff, Nat.reduceEqDiff, or_self, or_false, false_or, not_false_eq_true, Nat.add_le_add_iff_left, Nat.reduceLeDiff, and_false, false_and]; done) | (simp only [s1, s2, s3, sG, sR, sRc]; omega))
  try replace hM := hM.kW hF5 (by first | (simp only [s1, s2, s3, sG, sR, sRc, Nat.add_left_cancel_iff, Nat.reduceEqDiff, or_self, or_false, false_or, not_false_eq_true, Nat.add_le_add_iff_left, Nat.reduceLeDiff, and_false, false_and]; done) | (simp only [s1, s2, s3, sG, sR, sRc]; omega))
  try replace hZ := hZ.kW hF5 (by first | (simp only [s1, s2, s3, sG, sR, sRc, Nat.add_left_cancel_iff, Nat.reduceEqDiff, or_self, or_false, false_or, not_false_eq_true, Nat.add_le_add_iff_left, Nat.reduceLeDiff, and_false, false_and]; done) | (simp only [s1, s2, s3, sG, sR, sRc]; omega))
  try replace hC := hC.kW hF5 (by first | (simp only [s1, s2, s3, sG, sR, sRc, Nat.add_left_cancel_iff, Nat.reduceEqDiff, or_self, or_false, false_or, not_false_eq_true, Nat.add_le_add_iff_left, Nat.reduceLeDiff, and_false, false_and]; done) | (simp only [s1, s2, s3, sG, sR, sRc]; omega))
  try replace hP1 := hP1.kW hF5 (by first | (simp only [s1, s2, s3, sG, sR, sRc, Nat.add_left_cancel_iff, Nat.reduceEqDiff, or_self, or_false, false_or, not_false_eq_true, Nat.add_le_add_iff_left, Nat.reduceLeDiff, and_false, false_and]; done) | (simp only [s1, s2, s3, sG, sR, sRc]; omega))
  try replace hQ := hQ.kW hF5 (by first | (simp only [s1, s2, s3, sG, sR, sRc, Nat.add_left_cancel_iff, Nat.reduceEqDiff, or_self, or_false, false_or, not_false_eq_true, Nat.add_le_add_iff_left, Nat.reduceLeDiff, and_false, false_and]; done) | (simp only [s1, s2, s3, sG, sR, sRc]; omega))
  (try simp (disch := first | assumption | omega) only [sm_bind, sm_cb, sm_nm, ↓reduceIte, xf_9_0 hx5, xf_9_1 hx5, xf_9_2 hx5, xf_9_3 hx5, xf_9_4 hx5, xf_9_5 hx5, xf_9_6 hx5, xf_9_7 hx5, xf_9_8 hx5, xf_9_9 hx5, xf_9_10 hx5, xf_9_11 hx5, xf_9_12 hx5, xf_9_13 hx5, xf_9_14 hx5, xf_9_15 hx5, xf_9_16 hx5, xf_5_1_45 hx5, xf_5_2_45 hx5, xf_5_1_50 hx5, xf_5_2_50 hx5, xf_5_1_55 hx5, xf_5_2_55 hx5, xf_5_1_60 hx5, xf_5_2_60 hx5, xk_18 hx5, xk_19 hx5, xk_21 hx5, xk_23 hx5, xk_25 hx5, xk_27 hx5, xk_29 hx5, xk_31 hx5, xk_33 hx5, xk_35 hx5, xk_37 hx5, xk_39 hx5, xk_41 hx5, xk_43 hx5, xk_45 hx5, xk_46 hx5, xk_48 hx5, xk_50 hx5, xk_51 hx5, xk_53 hx5, xk_55 hx5, xk_56 hx5, xk_58 hx5, xk_60 hx5, xk_61 hx5, xk_63 hx5, sgA.2, sgB.2, sgI.2, fx_n fsA, fx_d fsA, fx_i fsA, fx_p fsA, fx_k fsA, fx_kn fsA, fx_kd fsA, fx_n fsB, fx_d fsB, fx_i fsB, fx_p fsB, fx_k fsB, fx_kn fsB, fx_kd fsB, fx_n fsI, fx_d fsI, fx_i fsI, fx_p fsI, fx_k fsI, fx_kn fsI, fx_kd fsI, nb0, nb1])
  exact Hx.ret ⟨hG5, fsI, sgI, hQ, hZ⟩
