abbrev MtJ5_charAt_5068e : Mt := (cJ5_charAt_5068e, 5, "java/lang/AbstractStringBuilder", (Option.some Jvm.ClassFile.FieldType.char), 3, 151, false)
set_option maxRecDepth 100000 in
set_option maxHeartbeats 4000000 in
theorem wJ5_charAt_5068e (l : Launch) {σ σf : St} {x0 : Nat} {x1 : Int32} {r : Int32} (hf : fJ5_charAt_5068e σ x0 x1 = some (σf, r)) : Con MtJ5_charAt_5068e yJ5_charAt_5068e l σ [rv x0, .int x1] σf (some (.int r)) := by
  refine Con.of (by decide +kernel) rfl (fun h => absurd (show false = true from h) (by decide)) (by simp only [sl_n, sl_r, sl_i, sl_l]; exact Nat.le_of_ble_eq_true rfl) ?_
  rw [show lv_args 0 [rv x0, .int x1] = [(0, rv x0), (1, .int x1)] by simp only [la_n, la_r, la_i, la_l] <;> rfl]
  have hX1 : ((l, σ, σf, .inl (some (.int r))) : Xt).2.2.1 = σf := rfl
  have hX2 : ((l, σ, σf, .inl (some (.int r))) : Xt).2.2.2 = .inl (some (.int r)) := rfl
  unfold fJ5_charAt_5068e at hf
  refine g_aload_n (j := 0) dJ5_charAt_5068e_0 rfl rfl ?_
  obtain ⟨v1, ev1, hf⟩ := ob hf
  refine g_getI dJ5_charAt_5068e_1 ev1 t_113 hin1 hc1 (by decide) rfl ?_
  refine g_istore_n (i := 2) (L' := [(2, .int v1), (0, rv x0), (1, .int x1)]) dJ5_charAt_5068e_4 rfl (Nat.le_of_ble_eq_true rfl) rfl ?_
  refine g_aload_n (j := 1) dJ5_charAt_5068e_5 rfl rfl ?_
  obtain ⟨v2, ev2, hf⟩ := ob hf
  refine g_getF dJ5_charAt_5068e_6 ev2 t_112 hin1 hc1 (by decide) rfl ?_
  refine g_astore_n (i := 3) (L' := [(3, rv v2), (2, .int v1), (0, rv x0), (1, .int x1)]) dJ5_charAt_5068e_9 rfl (Nat.le_of_ble_eq_true rfl) rfl ?_
  refine g_aload_n (j := 2) dJ5_charAt_5068e_10 rfl rfl ?_
  obtain ⟨v3, ev3, hf⟩ := ob hf
  refine g_getI dJ5_charAt_5068e_11 ev3 t_116 hin1 hc1 (by decide) rfl ?_
  refine g_aload_n (j := 0) dJ5_charAt_5068e_14 rfl rfl ?_
  obtain ⟨v4, ev4, hf⟩ := ob hf
  refine g_alen dJ5_charAt_5068e_15 ev4 ?_
  refine g_iload_n (j := 1) dJ5_charAt_5068e_16 rfl rfl ?_
  refine g_ishr dJ5_charAt_5068e_17 ?_
  refine g_mmin dJ5_charAt_5068e_18 t_1246 t_523 t_15 t_524 (by decide) (by decide) (Nat.le_of_ble_eq_true rfl) ?_
  obtain ⟨v5, ev5, hf⟩ := nm_el hf
  refine g_topI ev5 ?_
  refine g_istore (i := 4) (L' := [(4, .int v5), (3, rv v2), (2, .int v1), (0, rv x0), (1, .int x1)]) dJ5_charAt_5068e_21 (Nat.le_of_ble_eq_true rfl) (by simp [rv_cat]) ?_
  refine g_iload_n (j := 4) dJ5_charAt_5068e_23 rfl rfl ?_
  refine g_iload (j := 0) dJ5_charAt_5068e_24 rfl ?_
  obtain ⟨σ6, v7, eσ6, hf⟩ := cb_el hf
  refine g_callS_v dJ5_charAt_5068e_26 (wJ0_checkIndex_df160 _ eσ6) (okJ0_checkIndex_df160 _ (by decide) (by decide)) t_1247 t_833 rfl (Nat.le_trans (cat_le _) (Nat.le_of_ble_eq_true rfl)) rfl ?_
  refine g_iload_n (j := 2) dJ5_charAt_5068e_29 rfl rfl ?_
  refine g_if_ne (tgt := 42) dJ5_charAt_5068e_30 (by decide) (fun c8 => ?_) (fun c8 => ?_)
  · rw [if_neg c8] at hf
    refine g_aload_n (j := 1) dJ5_charAt_5068e_42 rfl rfl ?_
    refine g_iload_n (j := 4) dJ5_charAt_5068e_43 rfl rfl ?_
    cases hf
  · rw [if_pos c8] at hf
    refine g_aload_n (j := 1) dJ5_charAt_5068e_33 rfl rfl ?_
    refine g_iload_n (j := 4) dJ5_charAt_5068e_34 rfl rfl ?_
    obtain ⟨v9, ev9, hf⟩ := ob hf
    refine g_bald dJ5_charAt_5068e_35 ev9 ?_
    refine g_sipush (v := 255) dJ5_charAt_5068e_36 (by decide) ?_
    refine g_iand dJ5_charAt_5068e_39 ?_
    refine g_i2c dJ5_charAt_5068e_40 rfl ?_
    obtain ⟨_, h10, hf⟩ := ob hf
    exact g_iret dJ5_charAt_5068e_41 rfl (ckC_el h10) hX2 hX1 hf

theorem okJ5_charAt_5068e (M : Mt) (h1 : 3 + 1 ≤ M.2.2.2.2.1) (h2 : 8 + (5 + 11) + 151 ≤ M.2.2.2.2.2.1) : CallOk M MtJ5_charAt_5068e yJ5_charAt_5068e 1 := ⟨t_1245, h1, h2, ⟨by decide, by decide⟩, by decide +kernel, t_4⟩
abbrev MtJ4_charAt_5068e : Mt := (cJ4_charAt_5068e, 2, "java/lang/StringBuilder", (Option.some Jvm.ClassFile.FieldType.char), 4, 175, false)
set_option maxRecDepth 100000 in
set_option maxHeartbeats 4000000 in
theorem wJ4_charAt_5068e (l : Launch) {σ σf : St} {x0 : Nat} {x1 : Int32} {r : Int32} (hf : fJ4_charAt_5068e σ x0 x1 = some (σf, r)) : Con MtJ4_charAt_5068e yJ4_charAt_5068e l σ [rv x0, .int x1] σf (some (.int r)) := by
  refine Con.of (by decide +kernel) rfl (fun h => absurd (show false = true from h) (by decide)) (by simp only [sl_n, sl_r, sl_i, sl_l]; exact Nat.le_of_ble_eq_true rfl) ?_
  rw [show lv_args 0 [rv x0, .int x1] = [(0, rv x0), (1, .int x1)] by simp only [la_n, la_r, la_i, la_l] <;> rfl]
  have hX1 : ((l, σ, σf, .inl (some (.int r))) : Xt).2.2.1 = σf := rfl
  have hX2 : ((l, σ, σf, .inl (some (.int r))) : Xt).2.2.2 = .inl (some (.int r)) := rfl
  unfold fJ4_charAt_5068e at hf
  refine g_aload_n (j := 0) dJ4_charAt_5068e_0 rfl rfl ?_
  refine g_iload_n (j := 1) dJ4_charAt_5068e_1 rfl rfl ?_
  obtain ⟨_, h3, hf⟩ := ob hf
  obtain ⟨σ1, v2, eσ1, hf⟩ := cb_el hf
  refine g_callSU_i dJ4_charAt_5068e_2 (wJ5_charAt_5068e _ eσ1) (okJ5_charAt_5068e _ (by decide) (by decide)) (ckK_el h3) hc1 rfl t_1243 t_2789 t_125 t_1244 (by decide) rfl (Nat.le_trans (cat_le _) (Nat.le_of_ble_eq_true rfl)) rfl ?_
  obtain ⟨_, h4, hf⟩ := ob hf
  exact g_iret dJ4_charAt_5068e_5 rfl (ckC_el h4) hX2 hX1 hf

theorem okJ4_charAt_5068e (M : Mt) (h1 : 4 + 1 ≤ M.2.2.2.2.1) (h2 : 8 + (2 + 11) + 175 ≤ M.2.2.2.2.2.1) : CallOk M MtJ4_charAt_5068e yJ4_charAt_5068e 1 := ⟨t_1242, h1, h2, ⟨by decide, by decide⟩, by decide +kernel, t_5⟩
