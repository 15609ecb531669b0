abbrev MtX1_init : Mt := (cX1_init, 1, "ExactlySaid$Fraction", none, 2, 106, true)
set_option maxRecDepth 100000 in
set_option maxHeartbeats 4000000 in
theorem wX1_init (l : Launch) {σ σf : St} {x0 : Nat} {r : Unit} (hf : fX1_init σ x0 = some (σf, r)) : Con MtX1_init yX1_init l σ [rv x0] σf (none) := by
  refine Con.of (by decide +kernel) rfl (fun _ => rfl) (by simp only [sl_n, sl_r, sl_i, sl_l]; exact Nat.le_of_ble_eq_true rfl) ?_
  rw [show lv_args 0 [rv x0] = [(0, rv x0)] by simp only [la_n, la_r, la_i, la_l] <;> rfl]
  have hX1 : ((l, σ, σf, .inl (none)) : Xt).2.2.1 = σf := rfl
  have hX2 : ((l, σ, σf, .inl (none)) : Xt).2.2.2 = .inl (none) := rfl
  unfold fX1_init at hf
  refine g_aload_n (j := 0) dX1_init_0 rfl rfl ?_
  obtain ⟨_, h1, hf⟩ := ob hf
  refine g_objInit dX1_init_1 (of_decide_eq_true (ckP_el h1)) t_49 t_42 t_43 (by decide) (by decide) (Nat.le_of_ble_eq_true rfl) ?_
  refine g_aload_n (j := 0) dX1_init_4 rfl rfl ?_
  obtain ⟨σ2, eσ2, hf⟩ := nm_el hf
  obtain ⟨a3, ea3, hf⟩ := nm_el hf
  refine g_new9 dX1_init_5 hc7 hin7 hty7 hdf7 t_50 t_51 t_3 eσ2 ea3 ?_
  refine g_dup dX1_init_8 (rv_cat _) ?_
  obtain ⟨_, h6, hf⟩ := ob hf
  obtain ⟨σ4, v5, eσ4, hf⟩ := cb_el hf
  refine g_callIN dX1_init_9 (wX3_init _ eσ4) (okX3_init _ (by decide) (by decide)) rfl (by rw [ckK_el h6]; decide) rfl t_52 t_53 rfl (Nat.le_trans (cat_le _) (Nat.le_of_ble_eq_true rfl)) rfl ?_
  obtain ⟨σ7, eσ7, hf⟩ := ob hf
  refine g_putF dX1_init_12 eσ7 (Or.inl t_76) hin5 hc5 (by decide) hty5 hnm5 (Or.inr ⟨rfl, rfl, t_76⟩) rfl ?_
  refine g_aload_n (j := 0) dX1_init_15 rfl rfl ?_
  obtain ⟨σ8, eσ8, hf⟩ := nm_el hf
  obtain ⟨a9, ea9, hf⟩ := nm_el hf
  refine g_new9 dX1_init_16 hc7 hin7 hty7 hdf7 t_50 t_51 t_3 eσ8 ea9 ?_
  refine g_dup dX1_init_19 (rv_cat _) ?_
  obtain ⟨_, h12, hf⟩ := ob hf
  obtain ⟨σ10, v11, eσ10, hf⟩ := cb_el hf
  refine g_callIN dX1_init_20 (wX3_init _ eσ10) (okX3_init _ (by decide) (by decide)) rfl (by rw [ckK_el h12]; decide) rfl t_52 t_53 rfl (Nat.le_trans (cat_le _) (Nat.le_of_ble_eq_true rfl)) rfl ?_
  obtain ⟨σ13, eσ13, hf⟩ := ob hf
  refine g_putF dX1_init_23 eσ13 (Or.inl t_81) hin5 hc5 (by decide) hty5 hnm5 (Or.inr ⟨rfl, rfl, t_81⟩) rfl ?_
  refine g_aload_n (j := 0) dX1_init_26 rfl rfl ?_
  obtain ⟨v14, ev14, hf⟩ := ob hf
  refine g_getF dX1_init_27 ev14 t_81 hin5 hc5 (by decide) rfl ?_
  refine g_lconst (v := 1) dX1_init_30 (by decide) ?_
  obtain ⟨_, h17, hf⟩ := ob hf
  obtain ⟨σ15, v16, eσ15, hf⟩ := cb_el hf
  refine g_callVN_v dX1_init_31 (wX3_setSmall _ eσ15) (okX3_setSmall _ (by decide) (by decide)) (ckK_el h17) hc7 t_67 t_69 s_X3_setSmall rfl (Nat.le_trans (cat_le _) (Nat.le_of_ble_eq_true rfl)) rfl ?_
  exact g_vret dX1_init_34 rfl hX2 hX1 hf

theorem okX1_init (M : Mt) (h1 : 2 + 1 ≤ M.2.2.2.2.1) (h2 : 8 + (1 + 11) + 106 ≤ M.2.2.2.2.2.1) : CallOk M MtX1_init yX1_init 0 := ⟨t_48, h1, h2, ⟨by decide, by decide⟩, by decide +kernel, t_2⟩
abbrev MtX8_init : Mt := (cX8_init, 1, "ExactlySaid$Steps", none, 1, 84, true)
set_option maxRecDepth 100000 in
set_option maxHeartbeats 4000000 in
theorem wX8_init (l : Launch) {σ σf : St} {x0 : Nat} {r : Unit} (hf : fX8_init σ x0 = some (σf, r)) : Con MtX8_init yX8_init l σ [rv x0] σf (none) := by
  refine Con.of (by decide +kernel) rfl (fun _ => rfl) (by simp only [sl_n, sl_r, sl_i, sl_l]; exact Nat.le_of_ble_eq_true rfl) ?_
  rw [show lv_args 0 [rv x0] = [(0, rv x0)] by simp only [la_n, la_r, la_i, la_l] <;> rfl]
  have hX1 : ((l, σ, σf, .inl (none)) : Xt).2.2.1 = σf := rfl
  have hX2 : ((l, σ, σf, .inl (none)) : Xt).2.2.2 = .inl (none) := rfl
  unfold fX8_init at hf
  refine g_aload_n (j := 0) dX8_init_0 rfl rfl ?_
  obtain ⟨_, h1, hf⟩ := ob hf
  refine g_objInit dX8_init_1 (of_decide_eq_true (ckP_el h1)) t_132 t_42 t_43 (by decide) (by decide) (Nat.le_of_ble_eq_true rfl) ?_
  refine g_aload_n (j := 0) dX8_init_4 rfl rfl ?_
  refine g_sipush (v := 200) dX8_init_5 (by decide) ?_
  obtain ⟨σ2, eσ2, hf⟩ := ob hf
  obtain ⟨a3, ea3, hf⟩ := nm_el hf
  refine g_newa9 dX8_init_8 eσ2 (by decide) rfl (by decide) rfl t_66 ea3 ?_
  obtain ⟨σ4, eσ4, hf⟩ := ob hf
  refine g_putF dX8_init_10 eσ4 (Or.inl t_134) hin12 hc12 (by decide) hty12 hnm12 (Or.inr ⟨rfl, rfl, t_134⟩) rfl ?_
  refine g_aload_n (j := 0) dX8_init_13 rfl rfl ?_
  refine g_sipush (v := 200) dX8_init_14 (by decide) ?_
  obtain ⟨σ5, eσ5, hf⟩ := ob hf
  obtain ⟨a6, ea6, hf⟩ := nm_el hf
  refine g_newq9 dX8_init_17 eσ5 (by decide) rfl t_133 t_93 ea6 ?_
  obtain ⟨σ7, eσ7, hf⟩ := ob hf
  refine g_putF dX8_init_20 eσ7 (Or.inl t_136) hin12 hc12 (by decide) hty12 hnm12 (Or.inr ⟨rfl, rfl, t_136⟩) rfl ?_
  exact g_vret dX8_init_23 rfl hX2 hX1 hf

theorem okX8_init (M : Mt) (h1 : 1 + 1 ≤ M.2.2.2.2.1) (h2 : 8 + (1 + 11) + 84 ≤ M.2.2.2.2.2.1) : CallOk M MtX8_init yX8_init 0 := ⟨t_131, h1, h2, ⟨by decide, by decide⟩, by decide +kernel, t_8⟩
abbrev MtX1_setSign : Mt := (cX1_setSign, 2, "ExactlySaid$Fraction", none, 2, 104, false)
set_option maxRecDepth 100000 in
set_option maxHeartbeats 4000000 in
theorem bX1_setSign_16 {X : Xt} {σf : St} {r : Unit} (hX1 : X.2.2.1 = σf) (hX2 : X.2.2.2 = .inl (none)) {σ : St} {y0 : Nat} {y1 : Int32} (hf : fX1_setSign_16 σ y0 y1 = some (σf, r)) : G MtX1_setSign X σ 16 [] [.int y1, rv y0] := by
  unfold fX1_setSign_16 at hf
  obtain ⟨σ1, eσ1, hf⟩ := ob hf
  refine g_putI dX1_setSign_16 eσ1 (Or.inl t_72) hin5 hc5 (by decide) hty5 hnm5 (Or.inl rfl) rfl rfl rfl ?_
  exact g_vret dX1_setSign_19 rfl hX2 hX1 hf

set_option maxRecDepth 100000 in
set_option maxHeartbeats 4000000 in
theorem wX1_setSign (l : Launch) {σ σf : St} {x0 : Nat} {x1 : Int32} {r : Unit} (hf : fX1_setSign σ x0 x1 = some (σf, r)) : Con MtX1_setSign yX1_setSign l σ [rv x0, .int x1] σf (none) := by
  refine Con.of (by decide +kernel) rfl (fun h => absurd (show false = true from h) (by decide)) (by simp only [sl_n, sl_r, sl_i, sl_l]; exact Nat.le_of_ble_eq_true rfl) ?_
  rw [show lv_args 0 [rv x0, .int x1] = [(0, rv x0), (1, .int x1)] by simp only [la_n, la_r, la_i, la_l] <;> rfl]
  have hX1 : ((l, σ, σf, .inl (none)) : Xt).2.2.1 = σf := rfl
  have hX2 : ((l, σ, σf, .inl (none)) : Xt).2.2.2 = .inl (none) := rfl
  unfold fX1_setSign at hf
  refine g_aload_n (j := 0) dX1_setSign_0 rfl rfl ?_
  refine g_aload_n (j := 0) dX1_setSign_1 rfl rfl ?_
  obtain ⟨v1, ev1, hf⟩ := ob hf
  refine g_getF dX1_setSign_2 ev1 t_76 hin5 hc5 (by decide) rfl ?_
  obtain ⟨_, h4, hf⟩ := ob hf
  obtain ⟨σ2, v3, eσ2, hf⟩ := cb_el hf
  refine g_callVN_i dX1_setSign_5 (wX3_isZero _ eσ2) (okX3_isZero _ (by decide) (by decide)) (ckK_el h4) hc7 t_1030 t_1024 s_X3_isZero rfl (Nat.le_trans (cat_le _) (Nat.le_of_ble_eq_true rfl)) rfl ?_
  refine g_if_eq (tgt := 15) dX1_setSign_8 (by decide) (fun c5 => ?_) (fun c5 => ?_)
  · rw [if_pos c5] at hf
    refine g_iload_n (j := 1) dX1_setSign_15 rfl rfl ?_
    refine g_sub (L' := []) [] rfl ?_
    exact bX1_setSign_16 hX1 hX2 hf
  · rw [if_neg c5] at hf
    refine g_iconst (v := 0) dX1_setSign_11 (by decide) ?_
    refine g_goto (tgt := 16) dX1_setSign_12 (by decide) ?_
    refine g_sub (L' := []) [] rfl ?_
    exact bX1_setSign_16 hX1 hX2 hf

theorem okX1_setSign (M : Mt) (h1 : 2 + 1 ≤ M.2.2.2.2.1) (h2 : 8 + (2 + 11) + 104 ≤ M.2.2.2.2.2.1) : CallOk M MtX1_setSign yX1_setSign 1 := ⟨t_1029, h1, h2, ⟨by decide, by decide⟩, by decide +kernel, t_2⟩
abbrev MtX1_setTo : Mt := (cX1_setTo, 2, "ExactlySaid$Fraction", none, 2, 106, false)
set_option maxRecDepth 100000 in
set_option maxHeartbeats 4000000 in
theorem wX1_setTo (l : Launch) {σ σf : St} {x0 : Nat} {x1 : Nat} {r : Unit} (hf : fX1_setTo σ x0 x1 = some (σf, r)) : Con MtX1_setTo yX1_setTo l σ [rv x0, rv x1] σf (none) := by
  refine Con.of (by decide +kernel) rfl (fun h => absurd (show false = true from h) (by decide)) (by simp only [sl_n, sl_r, sl_i, sl_l]; exact Nat.le_of_ble_eq_true rfl) ?_
  rw [show lv_args 0 [rv x0, rv x1] = [(0, rv x0), (1, rv x1)] by simp only [la_n, la_r, la_i, la_l] <;> rfl]
  have hX1 : ((l, σ, σf, .inl (none)) : Xt).2.2.1 = σf := rfl
  have hX2 : ((l, σ, σf, .inl (none)) : Xt).2.2.2 = .inl (none) := rfl
  unfold fX1_setTo at hf
  refine g_aload_n (j := 0) dX1_setTo_0 rfl rfl ?_
  refine g_aload_n (j := 1) dX1_setTo_1 rfl rfl ?_
  obtain ⟨v1, ev1, hf⟩ := ob hf
  refine g_getI dX1_setTo_2 ev1 t_72 hin5 hc5 (by decide) rfl ?_
  obtain ⟨σ2, eσ2, hf⟩ := ob hf
  refine g_putI dX1_setTo_5 eσ2 (Or.inl t_72) hin5 hc5 (by decide) hty5 hnm5 (Or.inl rfl) rfl rfl rfl ?_
  refine g_aload_n (j := 0) dX1_setTo_8 rfl rfl ?_
  obtain ⟨v3, ev3, hf⟩ := ob hf
  refine g_getF dX1_setTo_9 ev3 t_76 hin5 hc5 (by decide) rfl ?_
  refine g_aload_n (j := 1) dX1_setTo_12 rfl rfl ?_
  obtain ⟨v4, ev4, hf⟩ := ob hf
  refine g_getF dX1_setTo_13 ev4 t_76 hin5 hc5 (by decide) rfl ?_
  obtain ⟨_, h7, hf⟩ := ob hf
  obtain ⟨σ5, v6, eσ5, hf⟩ := cb_el hf
  refine g_callVN_v dX1_setTo_16 (wX3_setTo _ eσ5) (okX3_setTo _ (by decide) (by decide)) (ckK_el h7) hc7 t_1048 t_865 s_X3_setTo rfl (Nat.le_trans (cat_le _) (Nat.le_of_ble_eq_true rfl)) rfl ?_
  refine g_aload_n (j := 0) dX1_setTo_19 rfl rfl ?_
  obtain ⟨v8, ev8, hf⟩ := ob hf
  refine g_getF dX1_setTo_20 ev8 t_81 hin5 hc5 (by decide) rfl ?_
  refine g_aload_n (j := 1) dX1_setTo_23 rfl rfl ?_
  obtain ⟨v9, ev9, hf⟩ := ob hf
  refine g_getF dX1_setTo_24 ev9 t_81 hin5 hc5 (by decide) rfl ?_
  obtain ⟨_, h12, hf⟩ := ob hf
  obtain ⟨σ10, v11, eσ10, hf⟩ := cb_el hf
  refine g_callVN_v dX1_setTo_27 (wX3_setTo _ eσ10) (okX3_setTo _ (by decide) (by decide)) (ckK_el h12) hc7 t_1048 t_865 s_X3_setTo rfl (Nat.le_trans (cat_le _) (Nat.le_of_ble_eq_true rfl)) rfl ?_
  exact g_vret dX1_setTo_30 rfl hX2 hX1 hf

theorem okX1_setTo (M : Mt) (h1 : 2 + 1 ≤ M.2.2.2.2.1) (h2 : 8 + (2 + 11) + 106 ≤ M.2.2.2.2.2.1) : CallOk M MtX1_setTo yX1_setTo 1 := ⟨t_1047, h1, h2, ⟨by decide, by decide⟩, by decide +kernel, t_2⟩
abbrev MtX8_note : Mt := (cX8_note, 3, "ExactlySaid$Steps", none, 3, 127, false)
set_option maxRecDepth 100000 in
set_option maxHeartbeats 4000000 in
theorem bX8_note_41 {X : Xt} {σf : St} {r : Unit} (hX1 : X.2.2.1 = σf) (hX2 : X.2.2.2 = .inl (none)) {σ : St} {x0 : Nat} {x1 : Int32} {x2 : Nat} (hf : fX8_note_41 σ x0 x1 x2 = some (σf, r)) : G MtX8_note X σ 41 [(0, rv x0), (1, .int x1), (2, rv x2)] [] := by
  unfold fX8_note_41 at hf
  refine g_aload_n (j := 0) dX8_note_41 rfl rfl ?_
  obtain ⟨v1, ev1, hf⟩ := ob hf
  refine g_getF dX8_note_42 ev1 t_136 hin12 hc12 (by decide) rfl ?_
  refine g_aload_n (j := 0) dX8_note_45 rfl rfl ?_
  obtain ⟨v2, ev2, hf⟩ := ob hf
  refine g_getI dX8_note_46 ev2 t_138 hin12 hc12 (by decide) rfl ?_
  obtain ⟨v3, ev3, hf⟩ := ob hf
  refine g_aald dX8_note_49 (by decide) rfl ev3 ?_
  refine g_aload_n (j := 2) dX8_note_50 rfl rfl ?_
  obtain ⟨_, h6, hf⟩ := ob hf
  obtain ⟨σ4, v5, eσ4, hf⟩ := cb_el hf
  refine g_callVN_v dX8_note_51 (wX1_setTo _ eσ4) (okX1_setTo _ (by decide) (by decide)) (ckK_el h6) hc5 t_1125 t_1046 s_X1_setTo rfl (Nat.le_trans (cat_le _) (Nat.le_of_ble_eq_true rfl)) rfl ?_
  refine g_aload_n (j := 0) dX8_note_54 rfl rfl ?_
  obtain ⟨v7, ev7, hf⟩ := ob hf
  refine g_getF dX8_note_55 ev7 t_134 hin12 hc12 (by decide) rfl ?_
  refine g_aload_n (j := 0) dX8_note_58 rfl rfl ?_
  obtain ⟨v8, ev8, hf⟩ := ob hf
  refine g_getI dX8_note_59 ev8 t_138 hin12 hc12 (by decide) rfl ?_
  refine g_iload_n (j := 1) dX8_note_62 rfl rfl ?_
  obtain ⟨σ9, eσ9, hf⟩ := ob hf
  refine g_iast dX8_note_63 eσ9 ?_
  refine g_aload_n (j := 0) dX8_note_64 rfl rfl ?_
  refine g_dup dX8_note_65 (rv_cat _) ?_
  obtain ⟨v10, ev10, hf⟩ := ob hf
  refine g_getI dX8_note_66 ev10 t_138 hin12 hc12 (by decide) rfl ?_
  refine g_iconst (v := 1) dX8_note_69 (by decide) ?_
  refine g_iadd dX8_note_70 ?_
  obtain ⟨σ11, eσ11, hf⟩ := ob hf
  refine g_putI dX8_note_71 eσ11 (Or.inl t_138) hin12 hc12 (by decide) hty12 hnm12 (Or.inl rfl) rfl rfl rfl ?_
  exact g_vret dX8_note_74 rfl hX2 hX1 hf

set_option maxRecDepth 100000 in
set_option maxHeartbeats 4000000 in
theorem wX8_note (l : Launch) {σ σf : St} {x0 : Nat} {x1 : Int32} {x2 : Nat} {r : Unit} (hf : fX8_note σ x0 x1 x2 = some (σf, r)) : Con MtX8_note yX8_note l σ [rv x0, .int x1, rv x2] σf (none) := by
  refine Con.of (by decide +kernel) rfl (fun h => absurd (show false = true from h) (by decide)) (by simp only [sl_n, sl_r, sl_i, sl_l]; exact Nat.le_of_ble_eq_true rfl) ?_
  rw [show lv_args 0 [rv x0, .int x1, rv x2] = [(0, rv x0), (1, .int x1), (2, rv x2)] by simp only [la_n, la_r, la_i, la_l] <;> rfl]
  have hX1 : ((l, σ, σf, .inl (none)) : Xt).2.2.1 = σf := rfl
  have hX2 : ((l, σ, σf, .inl (none)) : Xt).2.2.2 = .inl (none) := rfl
  unfold fX8_note at hf
  refine g_aload_n (j := 0) dX8_note_0 rfl rfl ?_
  obtain ⟨v1, ev1, hf⟩ := ob hf
  refine g_getI dX8_note_1 ev1 t_138 hin12 hc12 (by decide) rfl ?_
  refine g_aload_n (j := 0) dX8_note_4 rfl rfl ?_
  obtain ⟨v2, ev2, hf⟩ := ob hf
  refine g_getF dX8_note_5 ev2 t_134 hin12 hc12 (by decide) rfl ?_
  obtain ⟨v3, ev3, hf⟩ := ob hf
  refine g_alen dX8_note_8 ev3 ?_
  refine g_icmp_lt (tgt := 13) dX8_note_9 (by decide) (fun c4 => ?_) (fun c4 => ?_)
  · rw [if_pos c4] at hf
    refine g_aload_n (j := 0) dX8_note_13 rfl rfl ?_
    obtain ⟨v5, ev5, hf⟩ := ob hf
    refine g_getF dX8_note_14 ev5 t_136 hin12 hc12 (by decide) rfl ?_
    refine g_aload_n (j := 0) dX8_note_17 rfl rfl ?_
    obtain ⟨v6, ev6, hf⟩ := ob hf
    refine g_getI dX8_note_18 ev6 t_138 hin12 hc12 (by decide) rfl ?_
    obtain ⟨v7, ev7, hf⟩ := ob hf
    refine g_aald dX8_note_21 (by decide) rfl ev7 ?_
    refine g_ifnonnull (tgt := 41) dX8_note_22 (by decide) (fun c8 => ?_) (fun c8 => ?_)
    · rw [if_neg c8] at hf
      exact bX8_note_41 hX1 hX2 hf
    · rw [if_pos c8] at hf
      refine g_aload_n (j := 0) dX8_note_25 rfl rfl ?_
      obtain ⟨v9, ev9, hf⟩ := ob hf
      refine g_getF dX8_note_26 ev9 t_136 hin12 hc12 (by decide) rfl ?_
      refine g_aload_n (j := 0) dX8_note_29 rfl rfl ?_
      obtain ⟨v10, ev10, hf⟩ := ob hf
      refine g_getI dX8_note_30 ev10 t_138 hin12 hc12 (by decide) rfl ?_
      obtain ⟨σ11, eσ11, hf⟩ := nm_el hf
      obtain ⟨a12, ea12, hf⟩ := nm_el hf
      refine g_new9 dX8_note_33 hc5 hin5 hty5 hdf5 t_133 t_45 t_2 eσ11 ea12 ?_
      refine g_dup dX8_note_36 (rv_cat _) ?_
      obtain ⟨_, h15, hf⟩ := ob hf
      obtain ⟨σ13, v14, eσ13, hf⟩ := cb_el hf
      refine g_callIN dX8_note_37 (wX1_init _ eσ13) (okX1_init _ (by decide) (by decide)) rfl (by rw [ckK_el h15]; decide) rfl t_1124 t_47 rfl (Nat.le_trans (cat_le _) (Nat.le_of_ble_eq_true rfl)) rfl ?_
      obtain ⟨σ16, eσ16, hf⟩ := ob hf
      refine g_aast dX8_note_40 (by decide) rfl hc5 eσ16 ?_
      exact bX8_note_41 hX1 hX2 hf
  · rw [if_neg c4] at hf
    exact g_vret dX8_note_12 rfl hX2 hX1 hf

theorem okX8_note (M : Mt) (h1 : 3 + 1 ≤ M.2.2.2.2.1) (h2 : 8 + (3 + 11) + 127 ≤ M.2.2.2.2.2.1) : CallOk M MtX8_note yX8_note 2 := ⟨t_1123, h1, h2, ⟨by decide, by decide⟩, by decide +kernel, t_8⟩
abbrev MtX1_isWhole : Mt := (cX1_isWhole, 1, "ExactlySaid$Fraction", (Option.some Jvm.ClassFile.FieldType.boolean), 2, 104, false)
set_option maxRecDepth 100000 in
set_option maxHeartbeats 4000000 in
theorem wX1_isWhole (l : Launch) {σ σf : St} {x0 : Nat} {r : Int32} (hf : fX1_isWhole σ x0 = some (σf, r)) : Con MtX1_isWhole yX1_isWhole l σ [rv x0] σf (some (.int r)) := by
  refine Con.of (by decide +kernel) rfl (fun h => absurd (show false = true from h) (by decide)) (by simp only [sl_n, sl_r, sl_i, sl_l]; exact Nat.le_of_ble_eq_true rfl) ?_
  rw [show lv_args 0 [rv x0] = [(0, rv x0)] by simp only [la_n, la_r, la_i, la_l] <;> rfl]
  have hX1 : ((l, σ, σf, .inl (some (.int r))) : Xt).2.2.1 = σf := rfl
  have hX2 : ((l, σ, σf, .inl (some (.int r))) : Xt).2.2.2 = .inl (some (.int r)) := rfl
  unfold fX1_isWhole at hf
  refine g_aload_n (j := 0) dX1_isWhole_0 rfl rfl ?_
  obtain ⟨v1, ev1, hf⟩ := ob hf
  refine g_getF dX1_isWhole_1 ev1 t_81 hin5 hc5 (by decide) rfl ?_
  obtain ⟨_, h4, hf⟩ := ob hf
  obtain ⟨σ2, v3, eσ2, hf⟩ := cb_el hf
  refine g_callVN_i dX1_isWhole_4 (wX3_isOne _ eσ2) (okX3_isOne _ (by decide) (by decide)) (ckK_el h4) hc7 t_854 t_856 s_X3_isOne rfl (Nat.le_trans (cat_le _) (Nat.le_of_ble_eq_true rfl)) rfl ?_
  obtain ⟨_, h5, hf⟩ := ob hf
  exact g_iret dX1_isWhole_7 rfl (ckZ_el h5) hX2 hX1 hf

theorem okX1_isWhole (M : Mt) (h1 : 2 + 1 ≤ M.2.2.2.2.1) (h2 : 8 + (1 + 11) + 104 ≤ M.2.2.2.2.2.1) : CallOk M MtX1_isWhole yX1_isWhole 0 := ⟨t_853, h1, h2, ⟨by decide, by decide⟩, by decide +kernel, t_2⟩
abbrev MtX1_setWhole : Mt := (cX1_setWhole, 3, "ExactlySaid$Fraction", none, 3, 125, false)
set_option maxRecDepth 100000 in
set_option maxHeartbeats 4000000 in
theorem wX1_setWhole (l : Launch) {σ σf : St} {x0 : Nat} {x1 : Nat} {x2 : Int32} {r : Unit} (hf : fX1_setWhole σ x0 x1 x2 = some (σf, r)) : Con MtX1_setWhole yX1_setWhole l σ [rv x0, rv x1, .int x2] σf (none) := by
  refine Con.of (by decide +kernel) rfl (fun h => absurd (show false = true from h) (by decide)) (by simp only [sl_n, sl_r, sl_i, sl_l]; exact Nat.le_of_ble_eq_true rfl) ?_
  rw [show lv_args 0 [rv x0, rv x1, .int x2] = [(0, rv x0), (1, rv x1), (2, .int x2)] by simp only [la_n, la_r, la_i, la_l] <;> rfl]
  have hX1 : ((l, σ, σf, .inl (none)) : Xt).2.2.1 = σf := rfl
  have hX2 : ((l, σ, σf, .inl (none)) : Xt).2.2.2 = .inl (none) := rfl
  unfold fX1_setWhole at hf
  refine g_aload_n (j := 0) dX1_setWhole_0 rfl rfl ?_
  obtain ⟨v1, ev1, hf⟩ := ob hf
  refine g_getF dX1_setWhole_1 ev1 t_76 hin5 hc5 (by decide) rfl ?_
  refine g_aload_n (j := 1) dX1_setWhole_4 rfl rfl ?_
  obtain ⟨_, h4, hf⟩ := ob hf
  obtain ⟨σ2, v3, eσ2, hf⟩ := cb_el hf
  refine g_callVN_v dX1_setWhole_5 (wX3_setTo _ eσ2) (okX3_setTo _ (by decide) (by decide)) (ckK_el h4) hc7 t_1048 t_865 s_X3_setTo rfl (Nat.le_trans (cat_le _) (Nat.le_of_ble_eq_true rfl)) rfl ?_
  refine g_aload_n (j := 0) dX1_setWhole_8 rfl rfl ?_
  obtain ⟨v5, ev5, hf⟩ := ob hf
  refine g_getF dX1_setWhole_9 ev5 t_81 hin5 hc5 (by decide) rfl ?_
  refine g_lconst (v := 1) dX1_setWhole_12 (by decide) ?_
  obtain ⟨_, h8, hf⟩ := ob hf
  obtain ⟨σ6, v7, eσ6, hf⟩ := cb_el hf
  refine g_callVN_v dX1_setWhole_13 (wX3_setSmall _ eσ6) (okX3_setSmall _ (by decide) (by decide)) (ckK_el h8) hc7 t_67 t_69 s_X3_setSmall rfl (Nat.le_trans (cat_le _) (Nat.le_of_ble_eq_true rfl)) rfl ?_
  refine g_aload_n (j := 0) dX1_setWhole_16 rfl rfl ?_
  refine g_iload_n (j := 2) dX1_setWhole_17 rfl rfl ?_
  obtain ⟨_, h11, hf⟩ := ob hf
  obtain ⟨σ9, v10, eσ9, hf⟩ := cb_el hf
  refine g_callV_v dX1_setWhole_18 (wX1_setSign _ eσ9) (okX1_setSign _ (by decide) (by decide)) (ckK_el h11) hc5 t_1209 t_1028 s_X1_setSign rfl (Nat.le_trans (cat_le _) (Nat.le_of_ble_eq_true rfl)) rfl ?_
  exact g_vret dX1_setWhole_21 rfl hX2 hX1 hf

theorem okX1_setWhole (M : Mt) (h1 : 3 + 1 ≤ M.2.2.2.2.1) (h2 : 8 + (3 + 11) + 125 ≤ M.2.2.2.2.2.1) : CallOk M MtX1_setWhole yX1_setWhole 2 := ⟨t_1208, h1, h2, ⟨by decide, by decide⟩, by decide +kernel, t_2⟩
abbrev MtX1_fits : Mt := (cX1_fits, 1, "ExactlySaid$Fraction", (Option.some Jvm.ClassFile.FieldType.boolean), 2, 104, false)
set_option maxRecDepth 100000 in
set_option maxHeartbeats 4000000 in
theorem wX1_fits (l : Launch) {σ σf : St} {x0 : Nat} {r : Int32} (hf : fX1_fits σ x0 = some (σf, r)) : Con MtX1_fits yX1_fits l σ [rv x0] σf (some (.int r)) := by
  refine Con.of (by decide +kernel) rfl (fun h => absurd (show false = true from h) (by decide)) (by simp only [sl_n, sl_r, sl_i, sl_l]; exact Nat.le_of_ble_eq_true rfl) ?_
  rw [show lv_args 0 [rv x0] = [(0, rv x0)] by simp only [la_n, la_r, la_i, la_l] <;> rfl]
  have hX1 : ((l, σ, σf, .inl (some (.int r))) : Xt).2.2.1 = σf := rfl
  have hX2 : ((l, σ, σf, .inl (some (.int r))) : Xt).2.2.2 = .inl (some (.int r)) := rfl
  unfold fX1_fits at hf
  refine g_aload_n (j := 0) dX1_fits_0 rfl rfl ?_
  obtain ⟨v1, ev1, hf⟩ := ob hf
  refine g_getF dX1_fits_1 ev1 t_76 hin5 hc5 (by decide) rfl ?_
  obtain ⟨_, h4, hf⟩ := ob hf
  obtain ⟨σ2, v3, eσ2, hf⟩ := cb_el hf
  refine g_callVN_i dX1_fits_4 (wX3_fits _ eσ2) (okX3_fits _ (by decide) (by decide)) (ckK_el h4) hc7 t_1074 t_1076 s_X3_fits rfl (Nat.le_trans (cat_le _) (Nat.le_of_ble_eq_true rfl)) rfl ?_
  refine g_if_eq (tgt := 24) dX1_fits_7 (by decide) (fun c5 => ?_) (fun c5 => ?_)
  · rw [if_pos c5] at hf
    refine g_iconst (v := 0) dX1_fits_24 (by decide) ?_
    exact g_iret dX1_fits_25 rfl (by decide) hX2 hX1 hf
  · rw [if_neg c5] at hf
    refine g_aload_n (j := 0) dX1_fits_10 rfl rfl ?_
    obtain ⟨v6, ev6, hf⟩ := ob hf
    refine g_getF dX1_fits_11 ev6 t_81 hin5 hc5 (by decide) rfl ?_
    obtain ⟨_, h9, hf⟩ := ob hf
    obtain ⟨σ7, v8, eσ7, hf⟩ := cb_el hf
    refine g_callVN_i dX1_fits_14 (wX3_fits _ eσ7) (okX3_fits _ (by decide) (by decide)) (ckK_el h9) hc7 t_1074 t_1076 s_X3_fits rfl (Nat.le_trans (cat_le _) (Nat.le_of_ble_eq_true rfl)) rfl ?_
    refine g_if_eq (tgt := 24) dX1_fits_17 (by decide) (fun c10 => ?_) (fun c10 => ?_)
    · rw [if_pos c10] at hf
      refine g_iconst (v := 0) dX1_fits_24 (by decide) ?_
      exact g_iret dX1_fits_25 rfl (by decide) hX2 hX1 hf
    · rw [if_neg c10] at hf
      refine g_iconst (v := 1) dX1_fits_20 (by decide) ?_
      refine g_goto (tgt := 25) dX1_fits_21 (by decide) ?_
      exact g_iret dX1_fits_25 rfl (by decide) hX2 hX1 hf

theorem okX1_fits (M : Mt) (h1 : 2 + 1 ≤ M.2.2.2.2.1) (h2 : 8 + (1 + 11) + 104 ≤ M.2.2.2.2.2.1) : CallOk M MtX1_fits yX1_fits 0 := ⟨t_1073, h1, h2, ⟨by decide, by decide⟩, by decide +kernel, t_2⟩
abbrev MtX1_init_ : Mt := (cX1_init_, 2, "ExactlySaid$Fraction", none, 3, 127, true)
set_option maxRecDepth 100000 in
set_option maxHeartbeats 4000000 in
theorem wX1_init_ (l : Launch) {σ σf : St} {x0 : Nat} {x1 : Nat} {r : Unit} (hf : fX1_init_ σ x0 x1 = some (σf, r)) : Con MtX1_init_ yX1_init_ l σ [rv x0, rv x1] σf (none) := by
  refine Con.of (by decide +kernel) rfl (fun _ => rfl) (by simp only [sl_n, sl_r, sl_i, sl_l]; exact Nat.le_of_ble_eq_true rfl) ?_
  rw [show lv_args 0 [rv x0, rv x1] = [(0, rv x0), (1, rv x1)] by simp only [la_n, la_r, la_i, la_l] <;> rfl]
  have hX1 : ((l, σ, σf, .inl (none)) : Xt).2.2.1 = σf := rfl
  have hX2 : ((l, σ, σf, .inl (none)) : Xt).2.2.2 = .inl (none) := rfl
  unfold fX1_init_ at hf
  refine g_aload_n (j := 0) dX1_init__0 rfl rfl ?_
  obtain ⟨_, h1, hf⟩ := ob hf
  refine g_objInit dX1_init__1 (of_decide_eq_true (ckP_el h1)) t_49 t_42 t_43 (by decide) (by decide) (Nat.le_of_ble_eq_true rfl) ?_
  refine g_aload_n (j := 0) dX1_init__4 rfl rfl ?_
  obtain ⟨σ2, eσ2, hf⟩ := nm_el hf
  obtain ⟨a3, ea3, hf⟩ := nm_el hf
  refine g_new9 dX1_init__5 hc7 hin7 hty7 hdf7 t_50 t_51 t_3 eσ2 ea3 ?_
  refine g_dup dX1_init__8 (rv_cat _) ?_
  obtain ⟨_, h6, hf⟩ := ob hf
  obtain ⟨σ4, v5, eσ4, hf⟩ := cb_el hf
  refine g_callIN dX1_init__9 (wX3_init _ eσ4) (okX3_init _ (by decide) (by decide)) rfl (by rw [ckK_el h6]; decide) rfl t_52 t_53 rfl (Nat.le_trans (cat_le _) (Nat.le_of_ble_eq_true rfl)) rfl ?_
  obtain ⟨σ7, eσ7, hf⟩ := ob hf
  refine g_putF dX1_init__12 eσ7 (Or.inl t_76) hin5 hc5 (by decide) hty5 hnm5 (Or.inr ⟨rfl, rfl, t_76⟩) rfl ?_
  refine g_aload_n (j := 0) dX1_init__15 rfl rfl ?_
  obtain ⟨σ8, eσ8, hf⟩ := nm_el hf
  obtain ⟨a9, ea9, hf⟩ := nm_el hf
  refine g_new9 dX1_init__16 hc7 hin7 hty7 hdf7 t_50 t_51 t_3 eσ8 ea9 ?_
  refine g_dup dX1_init__19 (rv_cat _) ?_
  obtain ⟨_, h12, hf⟩ := ob hf
  obtain ⟨σ10, v11, eσ10, hf⟩ := cb_el hf
  refine g_callIN dX1_init__20 (wX3_init _ eσ10) (okX3_init _ (by decide) (by decide)) rfl (by rw [ckK_el h12]; decide) rfl t_52 t_53 rfl (Nat.le_trans (cat_le _) (Nat.le_of_ble_eq_true rfl)) rfl ?_
  obtain ⟨σ13, eσ13, hf⟩ := ob hf
  refine g_putF dX1_init__23 eσ13 (Or.inl t_81) hin5 hc5 (by decide) hty5 hnm5 (Or.inr ⟨rfl, rfl, t_81⟩) rfl ?_
  refine g_aload_n (j := 0) dX1_init__26 rfl rfl ?_
  refine g_aload_n (j := 1) dX1_init__27 rfl rfl ?_
  obtain ⟨_, h16, hf⟩ := ob hf
  obtain ⟨σ14, v15, eσ14, hf⟩ := cb_el hf
  refine g_callV_v dX1_init__28 (wX1_setTo _ eσ14) (okX1_setTo _ (by decide) (by decide)) (ckK_el h16) hc5 t_1547 t_1046 s_X1_setTo rfl (Nat.le_trans (cat_le _) (Nat.le_of_ble_eq_true rfl)) rfl ?_
  exact g_vret dX1_init__31 rfl hX2 hX1 hf

theorem okX1_init_ (M : Mt) (h1 : 3 + 1 ≤ M.2.2.2.2.1) (h2 : 8 + (2 + 11) + 127 ≤ M.2.2.2.2.2.1) : CallOk M MtX1_init_ yX1_init_ 1 := ⟨t_1546, h1, h2, ⟨by decide, by decide⟩, by decide +kernel, t_2⟩
abbrev MtX1_isSame : Mt := (cX1_isSame, 2, "ExactlySaid$Fraction", (Option.some Jvm.ClassFile.FieldType.boolean), 2, 106, false)
set_option maxRecDepth 100000 in
set_option maxHeartbeats 4000000 in
theorem wX1_isSame (l : Launch) {σ σf : St} {x0 : Nat} {x1 : Nat} {r : Int32} (hf : fX1_isSame σ x0 x1 = some (σf, r)) : Con MtX1_isSame yX1_isSame l σ [rv x0, rv x1] σf (some (.int r)) := by
  refine Con.of (by decide +kernel) rfl (fun h => absurd (show false = true from h) (by decide)) (by simp only [sl_n, sl_r, sl_i, sl_l]; exact Nat.le_of_ble_eq_true rfl) ?_
  rw [show lv_args 0 [rv x0, rv x1] = [(0, rv x0), (1, rv x1)] by simp only [la_n, la_r, la_i, la_l] <;> rfl]
  have hX1 : ((l, σ, σf, .inl (some (.int r))) : Xt).2.2.1 = σf := rfl
  have hX2 : ((l, σ, σf, .inl (some (.int r))) : Xt).2.2.2 = .inl (some (.int r)) := rfl
  unfold fX1_isSame at hf
  refine g_aload_n (j := 0) dX1_isSame_0 rfl rfl ?_
  obtain ⟨v1, ev1, hf⟩ := ob hf
  refine g_getI dX1_isSame_1 ev1 t_72 hin5 hc5 (by decide) rfl ?_
  refine g_aload_n (j := 1) dX1_isSame_4 rfl rfl ?_
  obtain ⟨v2, ev2, hf⟩ := ob hf
  refine g_getI dX1_isSame_5 ev2 t_72 hin5 hc5 (by decide) rfl ?_
  refine g_icmp_ne (tgt := 43) dX1_isSame_8 (by decide) (fun c3 => ?_) (fun c3 => ?_)
  · rw [if_neg c3] at hf
    refine g_iconst (v := 0) dX1_isSame_43 (by decide) ?_
    exact g_iret dX1_isSame_44 rfl (by decide) hX2 hX1 hf
  · rw [if_pos c3] at hf
    refine g_aload_n (j := 0) dX1_isSame_11 rfl rfl ?_
    obtain ⟨v4, ev4, hf⟩ := ob hf
    refine g_getF dX1_isSame_12 ev4 t_76 hin5 hc5 (by decide) rfl ?_
    refine g_aload_n (j := 1) dX1_isSame_15 rfl rfl ?_
    obtain ⟨v5, ev5, hf⟩ := ob hf
    refine g_getF dX1_isSame_16 ev5 t_76 hin5 hc5 (by decide) rfl ?_
    obtain ⟨_, h8, hf⟩ := ob hf
    obtain ⟨σ6, v7, eσ6, hf⟩ := cb_el hf
    refine g_callVN_i dX1_isSame_19 (wX3_against _ eσ6) (okX3_against _ (by decide) (by decide)) (ckK_el h8) hc7 t_1219 t_910 s_X3_against rfl (Nat.le_trans (cat_le _) (Nat.le_of_ble_eq_true rfl)) rfl ?_
    refine g_if_ne (tgt := 43) dX1_isSame_22 (by decide) (fun c9 => ?_) (fun c9 => ?_)
    · rw [if_neg c9] at hf
      refine g_iconst (v := 0) dX1_isSame_43 (by decide) ?_
      exact g_iret dX1_isSame_44 rfl (by decide) hX2 hX1 hf
    · rw [if_pos c9] at hf
      refine g_aload_n (j := 0) dX1_isSame_25 rfl rfl ?_
      obtain ⟨v10, ev10, hf⟩ := ob hf
      refine g_getF dX1_isSame_26 ev10 t_81 hin5 hc5 (by decide) rfl ?_
      refine g_aload_n (j := 1) dX1_isSame_29 rfl rfl ?_
      obtain ⟨v11, ev11, hf⟩ := ob hf
      refine g_getF dX1_isSame_30 ev11 t_81 hin5 hc5 (by decide) rfl ?_
      obtain ⟨_, h14, hf⟩ := ob hf
      obtain ⟨σ12, v13, eσ12, hf⟩ := cb_el hf
      refine g_callVN_i dX1_isSame_33 (wX3_against _ eσ12) (okX3_against _ (by decide) (by decide)) (ckK_el h14) hc7 t_1219 t_910 s_X3_against rfl (Nat.le_trans (cat_le _) (Nat.le_of_ble_eq_true rfl)) rfl ?_
      refine g_if_ne (tgt := 43) dX1_isSame_36 (by decide) (fun c15 => ?_) (fun c15 => ?_)
      · rw [if_neg c15] at hf
        refine g_iconst (v := 0) dX1_isSame_43 (by decide) ?_
        exact g_iret dX1_isSame_44 rfl (by decide) hX2 hX1 hf
      · rw [if_pos c15] at hf
        refine g_iconst (v := 1) dX1_isSame_39 (by decide) ?_
        refine g_goto (tgt := 44) dX1_isSame_40 (by decide) ?_
        exact g_iret dX1_isSame_44 rfl (by decide) hX2 hX1 hf

theorem okX1_isSame (M : Mt) (h1 : 2 + 1 ≤ M.2.2.2.2.1) (h2 : 8 + (2 + 11) + 106 ≤ M.2.2.2.2.2.1) : CallOk M MtX1_isSame yX1_isSame 1 := ⟨t_1218, h1, h2, ⟨by decide, by decide⟩, by decide +kernel, t_2⟩
