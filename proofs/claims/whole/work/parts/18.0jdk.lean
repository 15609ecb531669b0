abbrev MtJ7_copyOf_59c91 : Mt := (cJ7_copyOf_59c91, 3, "java/util/Arrays", (Option.some (Jvm.ClassFile.FieldType.array Jvm.ClassFile.FieldType.int)), 1, 120, false)
set_option maxRecDepth 100000 in
set_option maxHeartbeats 4000000 in
theorem wJ7_copyOf_59c91 (l : Launch) {σ σf : St} {x0 : Nat} {x1 : Int32} {r : Nat} (hf : fJ7_copyOf_59c91 σ x0 x1 = some (σf, r)) : Con MtJ7_copyOf_59c91 yJ7_copyOf_59c91 l σ [rv x0, .int x1] σf (some (rv r)) := by
  refine Con.of (by decide +kernel) rfl (fun h => absurd (show false = true from h) (by decide)) (by simp only [sl_n, sl_r, sl_i, sl_l]; exact Nat.le_of_ble_eq_true rfl) ?_
  rw [show lv_args 0 [rv x0, .int x1] = [(0, rv x0), (1, .int x1)] by simp only [la_n, la_r, la_i, la_l] <;> rfl]
  have hX1 : ((l, σ, σf, .inl (some (rv r))) : Xt).2.2.1 = σf := rfl
  have hX2 : ((l, σ, σf, .inl (some (rv r))) : Xt).2.2.2 = .inl (some (rv r)) := rfl
  unfold fJ7_copyOf_59c91 at hf
  refine g_iload_n (j := 1) dJ7_copyOf_59c91_0 rfl rfl ?_
  refine g_aload_n (j := 0) dJ7_copyOf_59c91_1 rfl rfl ?_
  obtain ⟨v1, ev1, hf⟩ := ob hf
  refine g_alen dJ7_copyOf_59c91_2 ev1 ?_
  refine g_icmp_ne (tgt := 14) dJ7_copyOf_59c91_3 (by decide) (fun c2 => ?_) (fun c2 => ?_)
  · rw [if_neg c2] at hf
    refine g_iload_n (j := 1) dJ7_copyOf_59c91_14 rfl rfl ?_
    obtain ⟨σ3, eσ3, hf⟩ := ob hf
    obtain ⟨a4, ea4, hf⟩ := nm_el hf
    refine g_newa9 dJ7_copyOf_59c91_15 eσ3 (by decide) rfl (by decide) rfl t_66 ea4 ?_
    refine g_astore_n (i := 2) (L' := [(2, rv a4), (0, rv x0), (1, .int x1)]) dJ7_copyOf_59c91_17 rfl (Nat.le_of_ble_eq_true rfl) rfl ?_
    refine g_aload_n (j := 1) dJ7_copyOf_59c91_18 rfl rfl ?_
    refine g_iconst (v := 0) dJ7_copyOf_59c91_19 (by decide) ?_
    refine g_aload_n (j := 0) dJ7_copyOf_59c91_20 rfl rfl ?_
    refine g_iconst (v := 0) dJ7_copyOf_59c91_21 (by decide) ?_
    refine g_aload_n (j := 1) dJ7_copyOf_59c91_22 rfl rfl ?_
    obtain ⟨v5, ev5, hf⟩ := ob hf
    refine g_alen dJ7_copyOf_59c91_23 ev5 ?_
    refine g_iload_n (j := 2) dJ7_copyOf_59c91_24 rfl rfl ?_
    refine g_mmin dJ7_copyOf_59c91_25 t_522 t_523 t_15 t_524 (by decide) (by decide) (Nat.le_of_ble_eq_true rfl) ?_
    obtain ⟨σ6, eσ6, hf⟩ := ob hf
    refine g_acopy dJ7_copyOf_59c91_28 eσ6 (by decide) t_525 t_527 t_526 t_24 (by decide) (by decide) (Nat.le_of_ble_eq_true rfl) ?_
    refine g_aload_n (j := 0) dJ7_copyOf_59c91_31 rfl rfl ?_
    exact g_aret dJ7_copyOf_59c91_32 rfl rfl hX2 hX1 hf
  · rw [if_pos c2] at hf
    refine g_aload_n (j := 0) dJ7_copyOf_59c91_6 rfl rfl ?_
    obtain ⟨σ7, eσ7, hf⟩ := ob hf
    obtain ⟨a8, ea8, hf⟩ := nm_el hf
    refine g_clone9 dJ7_copyOf_59c91_7 eσ7 (by decide) (by decide) t_903 t_904 t_517 t_518 t_905 t_906 (by decide) (by decide) (by decide) (Nat.le_of_ble_eq_true rfl) ea8 ?_
    obtain ⟨_, h9, hf⟩ := ob hf
    refine g_castA (ti := 0) dJ7_copyOf_59c91_10 h9 (by decide) (by decide) t_907 (by decide) ?_
    exact g_aret dJ7_copyOf_59c91_13 rfl rfl hX2 hX1 hf

theorem okJ7_copyOf_59c91 (M : Mt) (h1 : 1 + 1 ≤ M.2.2.2.2.1) (h2 : 8 + (3 + 11) + 120 ≤ M.2.2.2.2.2.1) : CallOk M MtJ7_copyOf_59c91 yJ7_copyOf_59c91 2 := ⟨t_902, h1, h2, ⟨by decide, by decide⟩, by decide +kernel, t_23⟩
abbrev MtJ7_copyOf_9075b : Mt := (cJ7_copyOf_9075b, 3, "java/util/Arrays", (Option.some (Jvm.ClassFile.FieldType.array Jvm.ClassFile.FieldType.byte)), 1, 120, false)
set_option maxRecDepth 100000 in
set_option maxHeartbeats 4000000 in
theorem wJ7_copyOf_9075b (l : Launch) {σ σf : St} {x0 : Nat} {x1 : Int32} {r : Nat} (hf : fJ7_copyOf_9075b σ x0 x1 = some (σf, r)) : Con MtJ7_copyOf_9075b yJ7_copyOf_9075b l σ [rv x0, .int x1] σf (some (rv r)) := by
  refine Con.of (by decide +kernel) rfl (fun h => absurd (show false = true from h) (by decide)) (by simp only [sl_n, sl_r, sl_i, sl_l]; exact Nat.le_of_ble_eq_true rfl) ?_
  rw [show lv_args 0 [rv x0, .int x1] = [(0, rv x0), (1, .int x1)] by simp only [la_n, la_r, la_i, la_l] <;> rfl]
  have hX1 : ((l, σ, σf, .inl (some (rv r))) : Xt).2.2.1 = σf := rfl
  have hX2 : ((l, σ, σf, .inl (some (rv r))) : Xt).2.2.2 = .inl (some (rv r)) := rfl
  unfold fJ7_copyOf_9075b at hf
  refine g_iload_n (j := 1) dJ7_copyOf_9075b_0 rfl rfl ?_
  refine g_aload_n (j := 0) dJ7_copyOf_9075b_1 rfl rfl ?_
  obtain ⟨v1, ev1, hf⟩ := ob hf
  refine g_alen dJ7_copyOf_9075b_2 ev1 ?_
  refine g_icmp_ne (tgt := 14) dJ7_copyOf_9075b_3 (by decide) (fun c2 => ?_) (fun c2 => ?_)
  · rw [if_neg c2] at hf
    refine g_iload_n (j := 1) dJ7_copyOf_9075b_14 rfl rfl ?_
    obtain ⟨σ3, eσ3, hf⟩ := ob hf
    obtain ⟨a4, ea4, hf⟩ := nm_el hf
    refine g_newa9 dJ7_copyOf_9075b_15 eσ3 (by decide) rfl (by decide) rfl t_126 ea4 ?_
    refine g_astore_n (i := 2) (L' := [(2, rv a4), (0, rv x0), (1, .int x1)]) dJ7_copyOf_9075b_17 rfl (Nat.le_of_ble_eq_true rfl) rfl ?_
    refine g_aload_n (j := 1) dJ7_copyOf_9075b_18 rfl rfl ?_
    refine g_iconst (v := 0) dJ7_copyOf_9075b_19 (by decide) ?_
    refine g_aload_n (j := 0) dJ7_copyOf_9075b_20 rfl rfl ?_
    refine g_iconst (v := 0) dJ7_copyOf_9075b_21 (by decide) ?_
    refine g_aload_n (j := 1) dJ7_copyOf_9075b_22 rfl rfl ?_
    obtain ⟨v5, ev5, hf⟩ := ob hf
    refine g_alen dJ7_copyOf_9075b_23 ev5 ?_
    refine g_iload_n (j := 2) dJ7_copyOf_9075b_24 rfl rfl ?_
    refine g_mmin dJ7_copyOf_9075b_25 t_522 t_523 t_15 t_524 (by decide) (by decide) (Nat.le_of_ble_eq_true rfl) ?_
    obtain ⟨σ6, eσ6, hf⟩ := ob hf
    refine g_acopy dJ7_copyOf_9075b_28 eσ6 (by decide) t_525 t_527 t_526 t_24 (by decide) (by decide) (Nat.le_of_ble_eq_true rfl) ?_
    refine g_aload_n (j := 0) dJ7_copyOf_9075b_31 rfl rfl ?_
    exact g_aret dJ7_copyOf_9075b_32 rfl rfl hX2 hX1 hf
  · rw [if_pos c2] at hf
    refine g_aload_n (j := 0) dJ7_copyOf_9075b_6 rfl rfl ?_
    cases hf

theorem okJ7_copyOf_9075b (M : Mt) (h1 : 1 + 1 ≤ M.2.2.2.2.1) (h2 : 8 + (3 + 11) + 120 ≤ M.2.2.2.2.2.1) : CallOk M MtJ7_copyOf_9075b yJ7_copyOf_9075b 2 := ⟨t_514, h1, h2, ⟨by decide, by decide⟩, by decide +kernel, t_23⟩
abbrev MtJ9_floorMod_f86c9 : Mt := (cJ9_floorMod_f86c9, 6, "java/lang/Math", (Option.some Jvm.ClassFile.FieldType.long), 1, 84, false)
set_option maxRecDepth 100000 in
set_option maxHeartbeats 4000000 in
theorem wJ9_floorMod_f86c9 (l : Launch) {σ σf : St} {x0 : Int64} {x2 : Int64} {r : Int64} (hf : fJ9_floorMod_f86c9 σ x0 x2 = some (σf, r)) : Con MtJ9_floorMod_f86c9 yJ9_floorMod_f86c9 l σ [.long x0, .long x2] σf (some (.long r)) := by
  refine Con.of (by decide +kernel) rfl (fun h => absurd (show false = true from h) (by decide)) (by simp only [sl_n, sl_r, sl_i, sl_l]; exact Nat.le_of_ble_eq_true rfl) ?_
  rw [show lv_args 0 [.long x0, .long x2] = [(0, .long x0), (2, .long x2)] by simp only [la_n, la_r, la_i, la_l] <;> rfl]
  have hX1 : ((l, σ, σf, .inl (some (.long r))) : Xt).2.2.1 = σf := rfl
  have hX2 : ((l, σ, σf, .inl (some (.long r))) : Xt).2.2.2 = .inl (some (.long r)) := rfl
  unfold fJ9_floorMod_f86c9 at hf
  refine g_lload_n (j := 0) dJ9_floorMod_f86c9_0 rfl rfl ?_
  refine g_lload_n (j := 1) dJ9_floorMod_f86c9_1 rfl rfl ?_
  obtain ⟨_, h1, hf⟩ := ob hf
  refine g_lrem dJ9_floorMod_f86c9_2 (ckDL_el h1) ?_
  obtain ⟨v2, ev2, hf⟩ := nm_el hf
  refine g_topL ev2 ?_
  refine g_lstore (i := 4) (L' := [(4, .long v2), (0, .long x0), (2, .long x2)]) dJ9_floorMod_f86c9_3 (Nat.le_of_ble_eq_true rfl) rfl ?_
  refine g_lload_n (j := 1) dJ9_floorMod_f86c9_5 rfl rfl ?_
  refine g_lload_n (j := 2) dJ9_floorMod_f86c9_6 rfl rfl ?_
  refine g_lxor dJ9_floorMod_f86c9_7 ?_
  refine g_lconst (v := 0) dJ9_floorMod_f86c9_8 (by decide) ?_
  refine g_lcmp dJ9_floorMod_f86c9_9 ?_
  refine g_if_ge (tgt := 25) dJ9_floorMod_f86c9_10 (by decide) (fun c3 => ?_) (fun c3 => ?_)
  · rw [if_pos c3] at hf
    refine g_lload (j := 0) dJ9_floorMod_f86c9_25 rfl ?_
    exact g_lret dJ9_floorMod_f86c9_27 rfl hX2 hX1 hf
  · rw [if_neg c3] at hf
    refine g_lload (j := 0) dJ9_floorMod_f86c9_13 rfl ?_
    refine g_lconst (v := 0) dJ9_floorMod_f86c9_15 (by decide) ?_
    refine g_lcmp dJ9_floorMod_f86c9_16 ?_
    refine g_if_eq (tgt := 25) dJ9_floorMod_f86c9_17 (by decide) (fun c4 => ?_) (fun c4 => ?_)
    · rw [if_pos c4] at hf
      refine g_lload (j := 0) dJ9_floorMod_f86c9_25 rfl ?_
      exact g_lret dJ9_floorMod_f86c9_27 rfl hX2 hX1 hf
    · rw [if_neg c4] at hf
      refine g_lload (j := 0) dJ9_floorMod_f86c9_20 rfl ?_
      refine g_lload_n (j := 2) dJ9_floorMod_f86c9_22 rfl rfl ?_
      refine g_ladd dJ9_floorMod_f86c9_23 ?_
      exact g_lret dJ9_floorMod_f86c9_24 rfl hX2 hX1 hf

theorem okJ9_floorMod_f86c9 (M : Mt) (h1 : 1 + 1 ≤ M.2.2.2.2.1) (h2 : 8 + (6 + 11) + 84 ≤ M.2.2.2.2.2.1) : CallOk M MtJ9_floorMod_f86c9 yJ9_floorMod_f86c9 2 := ⟨t_946, h1, h2, ⟨by decide, by decide⟩, by decide +kernel, t_15⟩
abbrev MtJ6_bitCount_0f7a4 : Mt := (cJ6_bitCount_0f7a4, 1, "java/lang/Integer", (Option.some Jvm.ClassFile.FieldType.int), 1, 84, false)
set_option maxRecDepth 100000 in
set_option maxHeartbeats 4000000 in
theorem wJ6_bitCount_0f7a4 (l : Launch) {σ σf : St} {x0 : Int32} {r : Int32} (hf : fJ6_bitCount_0f7a4 σ x0 = some (σf, r)) : Con MtJ6_bitCount_0f7a4 yJ6_bitCount_0f7a4 l σ [.int x0] σf (some (.int r)) := by
  refine Con.of (by decide +kernel) rfl (fun h => absurd (show false = true from h) (by decide)) (by simp only [sl_n, sl_r, sl_i, sl_l]; exact Nat.le_of_ble_eq_true rfl) ?_
  rw [show lv_args 0 [.int x0] = [(0, .int x0)] by simp only [la_n, la_r, la_i, la_l] <;> rfl]
  have hX1 : ((l, σ, σf, .inl (some (.int r))) : Xt).2.2.1 = σf := rfl
  have hX2 : ((l, σ, σf, .inl (some (.int r))) : Xt).2.2.2 = .inl (some (.int r)) := rfl
  unfold fJ6_bitCount_0f7a4 at hf
  refine g_iload_n (j := 0) dJ6_bitCount_0f7a4_0 rfl rfl ?_
  refine g_iload_n (j := 0) dJ6_bitCount_0f7a4_1 rfl rfl ?_
  refine g_iconst (v := 1) dJ6_bitCount_0f7a4_2 (by decide) ?_
  refine g_iushr dJ6_bitCount_0f7a4_3 rfl ?_
  refine g_ldcw (v := 1431655765) dJ6_bitCount_0f7a4_4 t_991 ?_
  refine g_iand dJ6_bitCount_0f7a4_7 ?_
  refine g_isub dJ6_bitCount_0f7a4_8 ?_
  obtain ⟨v1, ev1, hf⟩ := nm_el hf
  refine g_topI ev1 ?_
  refine g_istore_n (i := 0) (L' := [(0, .int v1)]) dJ6_bitCount_0f7a4_9 rfl (Nat.le_of_ble_eq_true rfl) rfl ?_
  refine g_iload_n (j := 0) dJ6_bitCount_0f7a4_10 rfl rfl ?_
  refine g_ldcw (v := 858993459) dJ6_bitCount_0f7a4_11 t_992 ?_
  refine g_iand dJ6_bitCount_0f7a4_14 ?_
  refine g_iload_n (j := 0) dJ6_bitCount_0f7a4_15 rfl rfl ?_
  refine g_iconst (v := 2) dJ6_bitCount_0f7a4_16 (by decide) ?_
  refine g_iushr dJ6_bitCount_0f7a4_17 rfl ?_
  refine g_ldcw (v := 858993459) dJ6_bitCount_0f7a4_18 t_992 ?_
  refine g_iand dJ6_bitCount_0f7a4_21 ?_
  refine g_iadd dJ6_bitCount_0f7a4_22 ?_
  obtain ⟨v2, ev2, hf⟩ := nm_el hf
  refine g_topI ev2 ?_
  refine g_istore_n (i := 0) (L' := [(0, .int v2)]) dJ6_bitCount_0f7a4_23 rfl (Nat.le_of_ble_eq_true rfl) rfl ?_
  refine g_iload_n (j := 0) dJ6_bitCount_0f7a4_24 rfl rfl ?_
  refine g_iload_n (j := 0) dJ6_bitCount_0f7a4_25 rfl rfl ?_
  refine g_iconst (v := 4) dJ6_bitCount_0f7a4_26 (by decide) ?_
  refine g_iushr dJ6_bitCount_0f7a4_27 rfl ?_
  refine g_iadd dJ6_bitCount_0f7a4_28 ?_
  refine g_ldcw (v := 252645135) dJ6_bitCount_0f7a4_29 t_993 ?_
  refine g_iand dJ6_bitCount_0f7a4_32 ?_
  obtain ⟨v3, ev3, hf⟩ := nm_el hf
  refine g_topI ev3 ?_
  refine g_istore_n (i := 0) (L' := [(0, .int v3)]) dJ6_bitCount_0f7a4_33 rfl (Nat.le_of_ble_eq_true rfl) rfl ?_
  refine g_iload_n (j := 0) dJ6_bitCount_0f7a4_34 rfl rfl ?_
  refine g_iload_n (j := 0) dJ6_bitCount_0f7a4_35 rfl rfl ?_
  refine g_bipush (v := 8) dJ6_bitCount_0f7a4_36 (by decide) ?_
  refine g_iushr dJ6_bitCount_0f7a4_38 rfl ?_
  refine g_iadd dJ6_bitCount_0f7a4_39 ?_
  obtain ⟨v4, ev4, hf⟩ := nm_el hf
  refine g_topI ev4 ?_
  refine g_istore_n (i := 0) (L' := [(0, .int v4)]) dJ6_bitCount_0f7a4_40 rfl (Nat.le_of_ble_eq_true rfl) rfl ?_
  refine g_iload_n (j := 0) dJ6_bitCount_0f7a4_41 rfl rfl ?_
  refine g_iload_n (j := 0) dJ6_bitCount_0f7a4_42 rfl rfl ?_
  refine g_bipush (v := 16) dJ6_bitCount_0f7a4_43 (by decide) ?_
  refine g_iushr dJ6_bitCount_0f7a4_45 rfl ?_
  refine g_iadd dJ6_bitCount_0f7a4_46 ?_
  obtain ⟨v5, ev5, hf⟩ := nm_el hf
  refine g_topI ev5 ?_
  refine g_istore_n (i := 0) (L' := [(0, .int v5)]) dJ6_bitCount_0f7a4_47 rfl (Nat.le_of_ble_eq_true rfl) rfl ?_
  refine g_iload_n (j := 0) dJ6_bitCount_0f7a4_48 rfl rfl ?_
  refine g_bipush (v := 63) dJ6_bitCount_0f7a4_49 (by decide) ?_
  refine g_iand dJ6_bitCount_0f7a4_51 ?_
  exact g_iret dJ6_bitCount_0f7a4_52 rfl rfl hX2 hX1 hf

theorem okJ6_bitCount_0f7a4 (M : Mt) (h1 : 1 + 1 ≤ M.2.2.2.2.1) (h2 : 8 + (1 + 11) + 84 ≤ M.2.2.2.2.2.1) : CallOk M MtJ6_bitCount_0f7a4 yJ6_bitCount_0f7a4 1 := ⟨t_990, h1, h2, ⟨by decide, by decide⟩, by decide +kernel, t_34⟩
abbrev MtJ5_init_d00df : Mt := (cJ5_init_d00df, 2, "java/lang/AbstractStringBuilder", none, 1, 84, true)
set_option maxRecDepth 100000 in
set_option maxHeartbeats 4000000 in
theorem wJ5_init_d00df (l : Launch) {σ σf : St} {x0 : Nat} {x1 : Int32} {r : Unit} (hf : fJ5_init_d00df σ x0 x1 = some (σf, r)) : Con MtJ5_init_d00df yJ5_init_d00df l σ [rv x0, .int x1] σf (none) := by
  refine Con.of (by decide +kernel) rfl (fun _ => rfl) (by simp only [sl_n, sl_r, sl_i, sl_l]; exact Nat.le_of_ble_eq_true rfl) ?_
  rw [show lv_args 0 [rv x0, .int x1] = [(0, rv x0), (1, .int x1)] by simp only [la_n, la_r, la_i, la_l] <;> rfl]
  have hX1 : ((l, σ, σf, .inl (none)) : Xt).2.2.1 = σf := rfl
  have hX2 : ((l, σ, σf, .inl (none)) : Xt).2.2.2 = .inl (none) := rfl
  unfold fJ5_init_d00df at hf
  refine g_aload_n (j := 0) dJ5_init_d00df_0 rfl rfl ?_
  obtain ⟨_, h1, hf⟩ := ob hf
  refine g_objInit dJ5_init_d00df_1 (of_decide_eq_true (ckP_el h1)) t_102 t_42 t_43 (by decide) (by decide) (Nat.le_of_ble_eq_true rfl) ?_
  refine g_getsCS dJ5_init_d00df_4 t_103 ?_
  refine g_if_eq (tgt := 25) dJ5_init_d00df_7 (by decide) (fun c2 => ?_) (fun c2 => ?_)
  · rw [if_pos c2] at hf
    refine g_aload_n (j := 0) dJ5_init_d00df_25 rfl rfl ?_
    refine g_iload_n (j := 1) dJ5_init_d00df_26 rfl rfl ?_
    cases hf
  · rw [if_neg c2] at hf
    refine g_aload_n (j := 0) dJ5_init_d00df_10 rfl rfl ?_
    refine g_iload_n (j := 1) dJ5_init_d00df_11 rfl rfl ?_
    obtain ⟨σ3, eσ3, hf⟩ := ob hf
    obtain ⟨a4, ea4, hf⟩ := nm_el hf
    refine g_newa9 dJ5_init_d00df_12 eσ3 (by decide) rfl (by decide) rfl t_126 ea4 ?_
    obtain ⟨σ5, eσ5, hf⟩ := ob hf
    refine g_putF dJ5_init_d00df_14 eσ5 (Or.inl t_112) hin1 hc1 (by decide) hty1 hnm1 (Or.inl rfl) rfl ?_
    refine g_aload_n (j := 0) dJ5_init_d00df_17 rfl rfl ?_
    refine g_iconst (v := 0) dJ5_init_d00df_18 (by decide) ?_
    obtain ⟨σ6, eσ6, hf⟩ := ob hf
    refine g_putI dJ5_init_d00df_19 eσ6 (Or.inl t_113) hin1 hc1 (by decide) hty1 hnm1 (Or.inl rfl) rfl (by decide) (by decide) ?_
    refine g_goto (tgt := 38) dJ5_init_d00df_22 (by decide) ?_
    exact g_vret dJ5_init_d00df_38 rfl hX2 hX1 hf

theorem okJ5_init_d00df (M : Mt) (h1 : 1 + 1 ≤ M.2.2.2.2.1) (h2 : 8 + (2 + 11) + 84 ≤ M.2.2.2.2.2.1) : CallOk M MtJ5_init_d00df yJ5_init_d00df 1 := ⟨t_101, h1, h2, ⟨by decide, by decide⟩, by decide +kernel, t_4⟩
abbrev MtJ4_init_da8c8 : Mt := (cJ4_init_da8c8, 1, "java/lang/StringBuilder", none, 2, 105, true)
set_option maxRecDepth 100000 in
set_option maxHeartbeats 4000000 in
theorem wJ4_init_da8c8 (l : Launch) {σ σf : St} {x0 : Nat} {r : Unit} (hf : fJ4_init_da8c8 σ x0 = some (σf, r)) : Con MtJ4_init_da8c8 yJ4_init_da8c8 l σ [rv x0] σf (none) := by
  refine Con.of (by decide +kernel) rfl (fun _ => rfl) (by simp only [sl_n, sl_r, sl_i, sl_l]; exact Nat.le_of_ble_eq_true rfl) ?_
  rw [show lv_args 0 [rv x0] = [(0, rv x0)] by simp only [la_n, la_r, la_i, la_l] <;> rfl]
  have hX1 : ((l, σ, σf, .inl (none)) : Xt).2.2.1 = σf := rfl
  have hX2 : ((l, σ, σf, .inl (none)) : Xt).2.2.2 = .inl (none) := rfl
  unfold fJ4_init_da8c8 at hf
  refine g_aload_n (j := 0) dJ4_init_da8c8_0 rfl rfl ?_
  refine g_bipush (v := 16) dJ4_init_da8c8_1 (by decide) ?_
  obtain ⟨_, h3, hf⟩ := ob hf
  obtain ⟨σ1, v2, eσ1, hf⟩ := cb_el hf
  refine g_callI dJ4_init_da8c8_3 (wJ5_init_d00df _ eσ1) (okJ5_init_d00df _ (by decide) (by decide)) rfl (by rw [ckK_el h3]; decide) rfl t_99 t_100 rfl (Nat.le_trans (cat_le _) (Nat.le_of_ble_eq_true rfl)) rfl ?_
  exact g_vret dJ4_init_da8c8_6 rfl hX2 hX1 hf

theorem okJ4_init_da8c8 (M : Mt) (h1 : 2 + 1 ≤ M.2.2.2.2.1) (h2 : 8 + (1 + 11) + 105 ≤ M.2.2.2.2.2.1) : CallOk M MtJ4_init_da8c8 yJ4_init_da8c8 0 := ⟨t_98, h1, h2, ⟨by decide, by decide⟩, by decide +kernel, t_5⟩
abbrev MtJ8_newLength_cabcc : Mt := (cJ8_newLength_cabcc, 4, "jdk/internal/util/ArraysSupport", (Option.some Jvm.ClassFile.FieldType.int), 1, 84, false)
set_option maxRecDepth 100000 in
set_option maxHeartbeats 4000000 in
theorem bJ8_newLength_cabcc_21 {X : Xt} {σf : St} {r : Int32} (hX1 : X.2.2.1 = σf) (hX2 : X.2.2.2 = .inl (some (.int r))) {σ : St} {x0 : Int32} {x1 : Int32} (hf : fJ8_newLength_cabcc_21 σ x0 x1 = some (σf, r)) : G MtJ8_newLength_cabcc X σ 21 [(0, .int x0), (1, .int x1)] [] := by
  unfold fJ8_newLength_cabcc_21 at hf
  refine g_iload_n (j := 0) dJ8_newLength_cabcc_21 rfl rfl ?_
  refine g_iload_n (j := 1) dJ8_newLength_cabcc_22 rfl rfl ?_
  cases hf

set_option maxRecDepth 100000 in
set_option maxHeartbeats 4000000 in
theorem wJ8_newLength_cabcc (l : Launch) {σ σf : St} {x0 : Int32} {x1 : Int32} {x2 : Int32} {r : Int32} (hf : fJ8_newLength_cabcc σ x0 x1 x2 = some (σf, r)) : Con MtJ8_newLength_cabcc yJ8_newLength_cabcc l σ [.int x0, .int x1, .int x2] σf (some (.int r)) := by
  refine Con.of (by decide +kernel) rfl (fun h => absurd (show false = true from h) (by decide)) (by simp only [sl_n, sl_r, sl_i, sl_l]; exact Nat.le_of_ble_eq_true rfl) ?_
  rw [show lv_args 0 [.int x0, .int x1, .int x2] = [(0, .int x0), (1, .int x1), (2, .int x2)] by simp only [la_n, la_r, la_i, la_l] <;> rfl]
  have hX1 : ((l, σ, σf, .inl (some (.int r))) : Xt).2.2.1 = σf := rfl
  have hX2 : ((l, σ, σf, .inl (some (.int r))) : Xt).2.2.2 = .inl (some (.int r)) := rfl
  unfold fJ8_newLength_cabcc at hf
  refine g_iload_n (j := 0) dJ8_newLength_cabcc_0 rfl rfl ?_
  refine g_iload_n (j := 1) dJ8_newLength_cabcc_1 rfl rfl ?_
  refine g_iload_n (j := 2) dJ8_newLength_cabcc_2 rfl rfl ?_
  refine g_mmax dJ8_newLength_cabcc_3 t_506 t_357 t_15 t_358 (by decide) (by decide) (Nat.le_of_ble_eq_true rfl) ?_
  refine g_iadd dJ8_newLength_cabcc_6 ?_
  obtain ⟨v1, ev1, hf⟩ := nm_el hf
  refine g_topI ev1 ?_
  refine g_istore_n (i := 3) (L' := [(3, .int v1), (0, .int x0), (1, .int x1), (2, .int x2)]) dJ8_newLength_cabcc_7 rfl (Nat.le_of_ble_eq_true rfl) rfl ?_
  refine g_iconst (v := 0) dJ8_newLength_cabcc_8 (by decide) ?_
  refine g_iload_n (j := 0) dJ8_newLength_cabcc_9 rfl rfl ?_
  refine g_icmp_ge (tgt := 21) dJ8_newLength_cabcc_10 (by decide) (fun c2 => ?_) (fun c2 => ?_)
  · rw [if_pos c2] at hf
    refine g_sub (L' := [(0, .int x0), (1, .int x1)]) [1, 2] rfl ?_
    exact bJ8_newLength_cabcc_21 hX1 hX2 hf
  · rw [if_neg c2] at hf
    refine g_iload_n (j := 0) dJ8_newLength_cabcc_13 rfl rfl ?_
    refine g_ldc (v := 2147483639) dJ8_newLength_cabcc_14 t_507 ?_
    refine g_icmp_gt (tgt := 21) dJ8_newLength_cabcc_16 (by decide) (fun c3 => ?_) (fun c3 => ?_)
    · rw [if_pos c3] at hf
      refine g_sub (L' := [(0, .int x0), (1, .int x1)]) [1, 2] rfl ?_
      exact bJ8_newLength_cabcc_21 hX1 hX2 hf
    · rw [if_neg c3] at hf
      refine g_iload_n (j := 0) dJ8_newLength_cabcc_19 rfl rfl ?_
      exact g_iret dJ8_newLength_cabcc_20 rfl rfl hX2 hX1 hf

theorem okJ8_newLength_cabcc (M : Mt) (h1 : 1 + 1 ≤ M.2.2.2.2.1) (h2 : 8 + (4 + 11) + 84 ≤ M.2.2.2.2.2.1) : CallOk M MtJ8_newLength_cabcc yJ8_newLength_cabcc 3 := ⟨t_505, h1, h2, ⟨by decide, by decide⟩, by decide +kernel, t_30⟩
abbrev MtJ5_newCapacity_0f7a4 : Mt := (cJ5_newCapacity_0f7a4, 6, "java/lang/AbstractStringBuilder", (Option.some Jvm.ClassFile.FieldType.int), 2, 107, false)
set_option maxRecDepth 100000 in
set_option maxHeartbeats 4000000 in
theorem wJ5_newCapacity_0f7a4 (l : Launch) {σ σf : St} {x0 : Nat} {x1 : Int32} {r : Int32} (hf : fJ5_newCapacity_0f7a4 σ x0 x1 = some (σf, r)) : Con MtJ5_newCapacity_0f7a4 yJ5_newCapacity_0f7a4 l σ [rv x0, .int x1] σf (some (.int r)) := by
  refine Con.of (by decide +kernel) rfl (fun h => absurd (show false = true from h) (by decide)) (by simp only [sl_n, sl_r, sl_i, sl_l]; exact Nat.le_of_ble_eq_true rfl) ?_
  rw [show lv_args 0 [rv x0, .int x1] = [(0, rv x0), (1, .int x1)] by simp only [la_n, la_r, la_i, la_l] <;> rfl]
  have hX1 : ((l, σ, σf, .inl (some (.int r))) : Xt).2.2.1 = σf := rfl
  have hX2 : ((l, σ, σf, .inl (some (.int r))) : Xt).2.2.2 = .inl (some (.int r)) := rfl
  unfold fJ5_newCapacity_0f7a4 at hf
  refine g_aload_n (j := 0) dJ5_newCapacity_0f7a4_0 rfl rfl ?_
  obtain ⟨v1, ev1, hf⟩ := ob hf
  refine g_getF dJ5_newCapacity_0f7a4_1 ev1 t_112 hin1 hc1 (by decide) rfl ?_
  obtain ⟨v2, ev2, hf⟩ := ob hf
  refine g_alen dJ5_newCapacity_0f7a4_4 ev2 ?_
  refine g_istore_n (i := 2) (L' := [(2, .int v2), (0, rv x0), (1, .int x1)]) dJ5_newCapacity_0f7a4_5 rfl (Nat.le_of_ble_eq_true rfl) rfl ?_
  refine g_iload_n (j := 2) dJ5_newCapacity_0f7a4_6 rfl rfl ?_
  refine g_aload_n (j := 1) dJ5_newCapacity_0f7a4_7 rfl rfl ?_
  obtain ⟨v3, ev3, hf⟩ := ob hf
  refine g_getI dJ5_newCapacity_0f7a4_8 ev3 t_113 hin1 hc1 (by decide) rfl ?_
  refine g_ishl dJ5_newCapacity_0f7a4_11 ?_
  obtain ⟨v4, ev4, hf⟩ := nm_el hf
  refine g_topI ev4 ?_
  refine g_istore_n (i := 3) (L' := [(3, .int v4), (2, .int v2), (0, rv x0), (1, .int x1)]) dJ5_newCapacity_0f7a4_12 rfl (Nat.le_of_ble_eq_true rfl) rfl ?_
  refine g_iload_n (j := 0) dJ5_newCapacity_0f7a4_13 rfl rfl ?_
  refine g_iload_n (j := 1) dJ5_newCapacity_0f7a4_14 rfl rfl ?_
  refine g_isub dJ5_newCapacity_0f7a4_15 ?_
  obtain ⟨v5, ev5, hf⟩ := nm_el hf
  refine g_topI ev5 ?_
  refine g_istore (i := 4) (L' := [(4, .int v5), (3, .int v4), (2, .int v2), (0, rv x0), (1, .int x1)]) dJ5_newCapacity_0f7a4_16 (Nat.le_of_ble_eq_true rfl) rfl ?_
  refine g_iload_n (j := 2) dJ5_newCapacity_0f7a4_18 rfl rfl ?_
  refine g_iload (j := 0) dJ5_newCapacity_0f7a4_19 rfl ?_
  refine g_iload_n (j := 2) dJ5_newCapacity_0f7a4_21 rfl rfl ?_
  refine g_iconst (v := 2) dJ5_newCapacity_0f7a4_22 (by decide) ?_
  refine g_aload_n (j := 3) dJ5_newCapacity_0f7a4_23 rfl rfl ?_
  obtain ⟨v6, ev6, hf⟩ := ob hf
  refine g_getI dJ5_newCapacity_0f7a4_24 ev6 t_113 hin1 hc1 (by decide) rfl ?_
  refine g_ishl dJ5_newCapacity_0f7a4_27 ?_
  refine g_iadd dJ5_newCapacity_0f7a4_28 ?_
  obtain ⟨σ7, v8, eσ7, hf⟩ := cb_el hf
  refine g_callS_i dJ5_newCapacity_0f7a4_29 (wJ8_newLength_cabcc _ eσ7) (okJ8_newLength_cabcc _ (by decide) (by decide)) t_503 t_504 rfl (Nat.le_trans (cat_le _) (Nat.le_of_ble_eq_true rfl)) rfl ?_
  refine g_istore (i := 5) (L' := [(5, .int v8), (4, .int v5), (3, .int v4), (2, .int v2), (0, rv x0), (1, .int x1)]) dJ5_newCapacity_0f7a4_32 (Nat.le_of_ble_eq_true rfl) rfl ?_
  refine g_iload (j := 0) dJ5_newCapacity_0f7a4_34 rfl ?_
  refine g_ldc (v := 2147483647) dJ5_newCapacity_0f7a4_36 t_511 ?_
  refine g_icmp_ne (tgt := 51) dJ5_newCapacity_0f7a4_38 (by decide) (fun c9 => ?_) (fun c9 => ?_)
  · rw [if_neg c9] at hf
    refine g_iload (j := 0) dJ5_newCapacity_0f7a4_51 rfl ?_
    refine g_aload_n (j := 4) dJ5_newCapacity_0f7a4_53 rfl rfl ?_
    obtain ⟨v10, ev10, hf⟩ := ob hf
    refine g_getI dJ5_newCapacity_0f7a4_54 ev10 t_113 hin1 hc1 (by decide) rfl ?_
    refine g_ishr dJ5_newCapacity_0f7a4_57 ?_
    exact g_iret dJ5_newCapacity_0f7a4_58 rfl rfl hX2 hX1 hf
  · rw [if_pos c9] at hf
    cases hf

theorem okJ5_newCapacity_0f7a4 (M : Mt) (h1 : 2 + 1 ≤ M.2.2.2.2.1) (h2 : 8 + (6 + 11) + 107 ≤ M.2.2.2.2.2.1) : CallOk M MtJ5_newCapacity_0f7a4 yJ5_newCapacity_0f7a4 1 := ⟨t_502, h1, h2, ⟨by decide, by decide⟩, by decide +kernel, t_4⟩
abbrev MtJ5_ensureCapacityInternal_d00df : Mt := (cJ5_ensureCapacityInternal_d00df, 3, "java/lang/AbstractStringBuilder", none, 3, 142, false)
set_option maxRecDepth 100000 in
set_option maxHeartbeats 4000000 in
theorem wJ5_ensureCapacityInternal_d00df (l : Launch) {σ σf : St} {x0 : Nat} {x1 : Int32} {r : Unit} (hf : fJ5_ensureCapacityInternal_d00df σ x0 x1 = some (σf, r)) : Con MtJ5_ensureCapacityInternal_d00df yJ5_ensureCapacityInternal_d00df l σ [rv x0, .int x1] σf (none) := by
  refine Con.of (by decide +kernel) rfl (fun h => absurd (show false = true from h) (by decide)) (by simp only [sl_n, sl_r, sl_i, sl_l]; exact Nat.le_of_ble_eq_true rfl) ?_
  rw [show lv_args 0 [rv x0, .int x1] = [(0, rv x0), (1, .int x1)] by simp only [la_n, la_r, la_i, la_l] <;> rfl]
  have hX1 : ((l, σ, σf, .inl (none)) : Xt).2.2.1 = σf := rfl
  have hX2 : ((l, σ, σf, .inl (none)) : Xt).2.2.2 = .inl (none) := rfl
  unfold fJ5_ensureCapacityInternal_d00df at hf
  refine g_aload_n (j := 0) dJ5_ensureCapacityInternal_d00df_0 rfl rfl ?_
  obtain ⟨v1, ev1, hf⟩ := ob hf
  refine g_getF dJ5_ensureCapacityInternal_d00df_1 ev1 t_112 hin1 hc1 (by decide) rfl ?_
  obtain ⟨v2, ev2, hf⟩ := ob hf
  refine g_alen dJ5_ensureCapacityInternal_d00df_4 ev2 ?_
  refine g_aload_n (j := 0) dJ5_ensureCapacityInternal_d00df_5 rfl rfl ?_
  obtain ⟨v3, ev3, hf⟩ := ob hf
  refine g_getI dJ5_ensureCapacityInternal_d00df_6 ev3 t_113 hin1 hc1 (by decide) rfl ?_
  refine g_ishr dJ5_ensureCapacityInternal_d00df_9 ?_
  obtain ⟨v4, ev4, hf⟩ := nm_el hf
  refine g_topI ev4 ?_
  refine g_istore_n (i := 2) (L' := [(2, .int v4), (0, rv x0), (1, .int x1)]) dJ5_ensureCapacityInternal_d00df_10 rfl (Nat.le_of_ble_eq_true rfl) rfl ?_
  refine g_iload_n (j := 2) dJ5_ensureCapacityInternal_d00df_11 rfl rfl ?_
  refine g_iload_n (j := 0) dJ5_ensureCapacityInternal_d00df_12 rfl rfl ?_
  refine g_isub dJ5_ensureCapacityInternal_d00df_13 ?_
  refine g_if_le (tgt := 38) dJ5_ensureCapacityInternal_d00df_14 (by decide) (fun c5 => ?_) (fun c5 => ?_)
  · rw [if_pos c5] at hf
    exact g_vret dJ5_ensureCapacityInternal_d00df_38 rfl hX2 hX1 hf
  · rw [if_neg c5] at hf
    refine g_aload_n (j := 1) dJ5_ensureCapacityInternal_d00df_17 rfl rfl ?_
    refine g_aload_n (j := 1) dJ5_ensureCapacityInternal_d00df_18 rfl rfl ?_
    obtain ⟨v6, ev6, hf⟩ := ob hf
    refine g_getF dJ5_ensureCapacityInternal_d00df_19 ev6 t_112 hin1 hc1 (by decide) rfl ?_
    refine g_aload_n (j := 1) dJ5_ensureCapacityInternal_d00df_22 rfl rfl ?_
    refine g_iload_n (j := 2) dJ5_ensureCapacityInternal_d00df_23 rfl rfl ?_
    obtain ⟨_, h9, hf⟩ := ob hf
    obtain ⟨σ7, v8, eσ7, hf⟩ := cb_el hf
    refine g_callU_i (x := ⟨"java/lang/AbstractStringBuilder", "newCapacity", "(I)I"⟩) dJ5_ensureCapacityInternal_d00df_24 (wJ5_newCapacity_0f7a4 _ eσ7) (okJ5_newCapacity_0f7a4 _ (by decide) (by decide)) (ckK_el h9) hc1 t_499 t_2781 t_501 (TB_ex (i := 1) rfl rfl) rfl rfl (Nat.le_trans (cat_le _) (Nat.le_of_ble_eq_true rfl)) rfl ?_
    refine g_aload_n (j := 1) dJ5_ensureCapacityInternal_d00df_27 rfl rfl ?_
    obtain ⟨v10, ev10, hf⟩ := ob hf
    refine g_getI dJ5_ensureCapacityInternal_d00df_28 ev10 t_113 hin1 hc1 (by decide) rfl ?_
    refine g_ishl dJ5_ensureCapacityInternal_d00df_31 ?_
    obtain ⟨σ11, a12, eσ11, hf⟩ := cb_el hf
    refine g_callS_q dJ5_ensureCapacityInternal_d00df_32 (wJ7_copyOf_9075b _ eσ11) (okJ7_copyOf_9075b _ (by decide) (by decide)) t_512 t_513 rfl (Nat.le_trans (cat_le _) (Nat.le_of_ble_eq_true rfl)) rfl ?_
    obtain ⟨σ13, eσ13, hf⟩ := ob hf
    refine g_putF dJ5_ensureCapacityInternal_d00df_35 eσ13 (Or.inl t_112) hin1 hc1 (by decide) hty1 hnm1 (Or.inl rfl) rfl ?_
    exact g_vret dJ5_ensureCapacityInternal_d00df_38 rfl hX2 hX1 hf

theorem okJ5_ensureCapacityInternal_d00df (M : Mt) (h1 : 3 + 1 ≤ M.2.2.2.2.1) (h2 : 8 + (3 + 11) + 142 ≤ M.2.2.2.2.2.1) : CallOk M MtJ5_ensureCapacityInternal_d00df yJ5_ensureCapacityInternal_d00df 1 := ⟨t_498, h1, h2, ⟨by decide, by decide⟩, by decide +kernel, t_4⟩
abbrev MtJ5_isLatin1_aae02 : Mt := (cJ5_isLatin1_aae02, 1, "java/lang/AbstractStringBuilder", (Option.some Jvm.ClassFile.FieldType.boolean), 1, 84, false)
set_option maxRecDepth 100000 in
set_option maxHeartbeats 4000000 in
theorem wJ5_isLatin1_aae02 (l : Launch) {σ σf : St} {x0 : Nat} {r : Int32} (hf : fJ5_isLatin1_aae02 σ x0 = some (σf, r)) : Con MtJ5_isLatin1_aae02 yJ5_isLatin1_aae02 l σ [rv x0] σf (some (.int r)) := by
  refine Con.of (by decide +kernel) rfl (fun h => absurd (show false = true from h) (by decide)) (by simp only [sl_n, sl_r, sl_i, sl_l]; exact Nat.le_of_ble_eq_true rfl) ?_
  rw [show lv_args 0 [rv x0] = [(0, rv x0)] by simp only [la_n, la_r, la_i, la_l] <;> rfl]
  have hX1 : ((l, σ, σf, .inl (some (.int r))) : Xt).2.2.1 = σf := rfl
  have hX2 : ((l, σ, σf, .inl (some (.int r))) : Xt).2.2.2 = .inl (some (.int r)) := rfl
  unfold fJ5_isLatin1_aae02 at hf
  refine g_getsCS dJ5_isLatin1_aae02_0 t_103 ?_
  refine g_if_eq (tgt := 17) dJ5_isLatin1_aae02_3 (by decide) (fun c1 => ?_) (fun c1 => ?_)
  · rw [if_pos c1] at hf
    refine g_iconst (v := 0) dJ5_isLatin1_aae02_17 (by decide) ?_
    exact g_iret dJ5_isLatin1_aae02_18 rfl (by decide) hX2 hX1 hf
  · rw [if_neg c1] at hf
    refine g_aload_n (j := 0) dJ5_isLatin1_aae02_6 rfl rfl ?_
    obtain ⟨v2, ev2, hf⟩ := ob hf
    refine g_getI dJ5_isLatin1_aae02_7 ev2 t_113 hin1 hc1 (by decide) rfl ?_
    refine g_if_ne (tgt := 17) dJ5_isLatin1_aae02_10 (by decide) (fun c3 => ?_) (fun c3 => ?_)
    · rw [if_neg c3] at hf
      refine g_iconst (v := 0) dJ5_isLatin1_aae02_17 (by decide) ?_
      exact g_iret dJ5_isLatin1_aae02_18 rfl (by decide) hX2 hX1 hf
    · rw [if_pos c3] at hf
      refine g_iconst (v := 1) dJ5_isLatin1_aae02_13 (by decide) ?_
      refine g_goto (tgt := 18) dJ5_isLatin1_aae02_14 (by decide) ?_
      exact g_iret dJ5_isLatin1_aae02_18 rfl (by decide) hX2 hX1 hf

theorem okJ5_isLatin1_aae02 (M : Mt) (h1 : 1 + 1 ≤ M.2.2.2.2.1) (h2 : 8 + (1 + 11) + 84 ≤ M.2.2.2.2.2.1) : CallOk M MtJ5_isLatin1_aae02 yJ5_isLatin1_aae02 0 := ⟨t_532, h1, h2, ⟨by decide, by decide⟩, by decide +kernel, t_4⟩
abbrev MtJ1_canEncode_fc78d : Mt := (cJ1_canEncode_fc78d, 1, "java/lang/StringLatin1", (Option.some Jvm.ClassFile.FieldType.boolean), 1, 84, false)
set_option maxRecDepth 100000 in
set_option maxHeartbeats 4000000 in
theorem wJ1_canEncode_fc78d (l : Launch) {σ σf : St} {x0 : Int32} {r : Int32} (hf : fJ1_canEncode_fc78d σ x0 = some (σf, r)) : Con MtJ1_canEncode_fc78d yJ1_canEncode_fc78d l σ [.int x0] σf (some (.int r)) := by
  refine Con.of (by decide +kernel) rfl (fun h => absurd (show false = true from h) (by decide)) (by simp only [sl_n, sl_r, sl_i, sl_l]; exact Nat.le_of_ble_eq_true rfl) ?_
  rw [show lv_args 0 [.int x0] = [(0, .int x0)] by simp only [la_n, la_r, la_i, la_l] <;> rfl]
  have hX1 : ((l, σ, σf, .inl (some (.int r))) : Xt).2.2.1 = σf := rfl
  have hX2 : ((l, σ, σf, .inl (some (.int r))) : Xt).2.2.2 = .inl (some (.int r)) := rfl
  unfold fJ1_canEncode_fc78d at hf
  refine g_iload_n (j := 0) dJ1_canEncode_fc78d_0 rfl rfl ?_
  refine g_sipush (v := 255) dJ1_canEncode_fc78d_1 (by decide) ?_
  refine g_icmp_gt (tgt := 11) dJ1_canEncode_fc78d_4 (by decide) (fun c1 => ?_) (fun c1 => ?_)
  · rw [if_pos c1] at hf
    refine g_iconst (v := 0) dJ1_canEncode_fc78d_11 (by decide) ?_
    exact g_iret dJ1_canEncode_fc78d_12 rfl (by decide) hX2 hX1 hf
  · rw [if_neg c1] at hf
    refine g_iconst (v := 1) dJ1_canEncode_fc78d_7 (by decide) ?_
    refine g_goto (tgt := 12) dJ1_canEncode_fc78d_8 (by decide) ?_
    exact g_iret dJ1_canEncode_fc78d_12 rfl (by decide) hX2 hX1 hf

theorem okJ1_canEncode_fc78d (M : Mt) (h1 : 1 + 1 ≤ M.2.2.2.2.1) (h2 : 8 + (1 + 11) + 84 ≤ M.2.2.2.2.2.1) : CallOk M MtJ1_canEncode_fc78d yJ1_canEncode_fc78d 1 := ⟨t_825, h1, h2, ⟨by decide, by decide⟩, by decide +kernel, t_32⟩
abbrev MtJ5_append_3fe6f : Mt := (cJ5_append_3fe6f, 2, "java/lang/AbstractStringBuilder", (Option.some (Jvm.ClassFile.FieldType.object "java/lang/AbstractStringBuilder")), 4, 164, false)
set_option maxRecDepth 100000 in
set_option maxHeartbeats 4000000 in
theorem bJ5_append_3fe6f_56 {X : Xt} {σf : St} {r : Nat} (hX1 : X.2.2.1 = σf) (hX2 : X.2.2.2 = .inl (some (rv r))) {σ : St} {x0 : Nat} {x1 : Int32} (hf : fJ5_append_3fe6f_56 σ x0 x1 = some (σf, r)) : G MtJ5_append_3fe6f X σ 56 [(0, rv x0), (1, .int x1)] [] := by
  unfold fJ5_append_3fe6f_56 at hf
  refine g_aload_n (j := 0) dJ5_append_3fe6f_56 rfl rfl ?_
  obtain ⟨v1, ev1, hf⟩ := ob hf
  refine g_getF dJ5_append_3fe6f_57 ev1 t_112 hin1 hc1 (by decide) rfl ?_
  refine g_aload_n (j := 0) dJ5_append_3fe6f_60 rfl rfl ?_
  refine g_dup dJ5_append_3fe6f_61 (rv_cat _) ?_
  obtain ⟨v2, ev2, hf⟩ := ob hf
  refine g_getI dJ5_append_3fe6f_62 ev2 t_116 hin1 hc1 (by decide) rfl ?_
  refine g_dup_x1 dJ5_append_3fe6f_65 rfl (rv_cat _) ?_
  refine g_iconst (v := 1) dJ5_append_3fe6f_66 (by decide) ?_
  refine g_iadd dJ5_append_3fe6f_67 ?_
  obtain ⟨σ3, eσ3, hf⟩ := ob hf
  refine g_putI dJ5_append_3fe6f_68 eσ3 (Or.inl t_116) hin1 hc1 (by decide) hty1 hnm1 (Or.inl rfl) rfl rfl rfl ?_
  refine g_iload_n (j := 1) dJ5_append_3fe6f_71 rfl rfl ?_
  cases hf

set_option maxRecDepth 100000 in
set_option maxHeartbeats 4000000 in
theorem bJ5_append_3fe6f_45 {X : Xt} {σf : St} {r : Nat} (hX1 : X.2.2.1 = σf) (hX2 : X.2.2.2 = .inl (some (rv r))) {σ : St} {x0 : Nat} {x1 : Int32} (hf : fJ5_append_3fe6f_45 σ x0 x1 = some (σf, r)) : G MtJ5_append_3fe6f X σ 45 [(0, rv x0), (1, .int x1)] [] := by
  unfold fJ5_append_3fe6f_45 at hf
  refine g_aload_n (j := 0) dJ5_append_3fe6f_45 rfl rfl ?_
  obtain ⟨_, h3, hf⟩ := ob hf
  obtain ⟨σ1, v2, eσ1, hf⟩ := cb_el hf
  refine g_callU_i (x := ⟨"java/lang/AbstractStringBuilder", "isLatin1", "()Z"⟩) dJ5_append_3fe6f_46 (wJ5_isLatin1_aae02 _ eσ1) (okJ5_isLatin1_aae02 _ (by decide) (by decide)) (ckK_el h3) hc1 t_528 t_530 t_529 t_531 rfl rfl (Nat.le_trans (cat_le _) (Nat.le_of_ble_eq_true rfl)) rfl ?_
  refine g_if_eq (tgt := 56) dJ5_append_3fe6f_49 (by decide) (fun c4 => ?_) (fun c4 => ?_)
  · rw [if_pos c4] at hf
    exact bJ5_append_3fe6f_56 hX1 hX2 hf
  · rw [if_neg c4] at hf
    refine g_aload_n (j := 0) dJ5_append_3fe6f_52 rfl rfl ?_
    cases hf

set_option maxRecDepth 100000 in
set_option maxHeartbeats 4000000 in
theorem wJ5_append_3fe6f (l : Launch) {σ σf : St} {x0 : Nat} {x1 : Int32} {r : Nat} (hf : fJ5_append_3fe6f σ x0 x1 = some (σf, r)) : Con MtJ5_append_3fe6f yJ5_append_3fe6f l σ [rv x0, .int x1] σf (some (rv r)) := by
  refine Con.of (by decide +kernel) rfl (fun h => absurd (show false = true from h) (by decide)) (by simp only [sl_n, sl_r, sl_i, sl_l]; exact Nat.le_of_ble_eq_true rfl) ?_
  rw [show lv_args 0 [rv x0, .int x1] = [(0, rv x0), (1, .int x1)] by simp only [la_n, la_r, la_i, la_l] <;> rfl]
  have hX1 : ((l, σ, σf, .inl (some (rv r))) : Xt).2.2.1 = σf := rfl
  have hX2 : ((l, σ, σf, .inl (some (rv r))) : Xt).2.2.2 = .inl (some (rv r)) := rfl
  unfold fJ5_append_3fe6f at hf
  refine g_aload_n (j := 0) dJ5_append_3fe6f_0 rfl rfl ?_
  refine g_aload_n (j := 0) dJ5_append_3fe6f_1 rfl rfl ?_
  obtain ⟨v1, ev1, hf⟩ := ob hf
  refine g_getI dJ5_append_3fe6f_2 ev1 t_116 hin1 hc1 (by decide) rfl ?_
  refine g_iconst (v := 1) dJ5_append_3fe6f_5 (by decide) ?_
  refine g_iadd dJ5_append_3fe6f_6 ?_
  obtain ⟨_, h4, hf⟩ := ob hf
  obtain ⟨σ2, v3, eσ2, hf⟩ := cb_el hf
  refine g_callU_v (x := ⟨"java/lang/AbstractStringBuilder", "ensureCapacityInternal", "(I)V"⟩) dJ5_append_3fe6f_7 (wJ5_ensureCapacityInternal_d00df _ eσ2) (okJ5_ensureCapacityInternal_d00df _ (by decide) (by decide)) (ckK_el h4) hc1 t_495 t_2780 t_497 (TB_ex (i := 0) rfl rfl) rfl rfl (Nat.le_trans (cat_le _) (Nat.le_of_ble_eq_true rfl)) rfl ?_
  refine g_aload_n (j := 0) dJ5_append_3fe6f_10 rfl rfl ?_
  obtain ⟨_, h7, hf⟩ := ob hf
  obtain ⟨σ5, v6, eσ5, hf⟩ := cb_el hf
  refine g_callU_i (x := ⟨"java/lang/AbstractStringBuilder", "isLatin1", "()Z"⟩) dJ5_append_3fe6f_11 (wJ5_isLatin1_aae02 _ eσ5) (okJ5_isLatin1_aae02 _ (by decide) (by decide)) (ckK_el h7) hc1 t_528 t_530 t_529 t_531 rfl rfl (Nat.le_trans (cat_le _) (Nat.le_of_ble_eq_true rfl)) rfl ?_
  refine g_if_eq (tgt := 45) dJ5_append_3fe6f_14 (by decide) (fun c8 => ?_) (fun c8 => ?_)
  · rw [if_pos c8] at hf
    exact bJ5_append_3fe6f_45 hX1 hX2 hf
  · rw [if_neg c8] at hf
    refine g_iload_n (j := 1) dJ5_append_3fe6f_17 rfl rfl ?_
    obtain ⟨σ9, v10, eσ9, hf⟩ := cb_el hf
    refine g_callS_i dJ5_append_3fe6f_18 (wJ1_canEncode_fc78d _ eσ9) (okJ1_canEncode_fc78d _ (by decide) (by decide)) t_823 t_824 rfl (Nat.le_trans (cat_le _) (Nat.le_of_ble_eq_true rfl)) rfl ?_
    refine g_if_eq (tgt := 45) dJ5_append_3fe6f_21 (by decide) (fun c11 => ?_) (fun c11 => ?_)
    · rw [if_pos c11] at hf
      exact bJ5_append_3fe6f_45 hX1 hX2 hf
    · rw [if_neg c11] at hf
      refine g_aload_n (j := 0) dJ5_append_3fe6f_24 rfl rfl ?_
      obtain ⟨v12, ev12, hf⟩ := ob hf
      refine g_getF dJ5_append_3fe6f_25 ev12 t_112 hin1 hc1 (by decide) rfl ?_
      refine g_aload_n (j := 0) dJ5_append_3fe6f_28 rfl rfl ?_
      refine g_dup dJ5_append_3fe6f_29 (rv_cat _) ?_
      obtain ⟨v13, ev13, hf⟩ := ob hf
      refine g_getI dJ5_append_3fe6f_30 ev13 t_116 hin1 hc1 (by decide) rfl ?_
      refine g_dup_x1 dJ5_append_3fe6f_33 rfl (rv_cat _) ?_
      refine g_iconst (v := 1) dJ5_append_3fe6f_34 (by decide) ?_
      refine g_iadd dJ5_append_3fe6f_35 ?_
      obtain ⟨σ14, eσ14, hf⟩ := ob hf
      refine g_putI dJ5_append_3fe6f_36 eσ14 (Or.inl t_116) hin1 hc1 (by decide) hty1 hnm1 (Or.inl rfl) rfl rfl rfl ?_
      refine g_iload_n (j := 1) dJ5_append_3fe6f_39 rfl rfl ?_
      refine g_i2b dJ5_append_3fe6f_40 rfl ?_
      obtain ⟨σ15, eσ15, hf⟩ := ob hf
      refine g_bast dJ5_append_3fe6f_41 eσ15 ?_
      refine g_goto (tgt := 75) dJ5_append_3fe6f_42 (by decide) ?_
      refine g_aload_n (j := 0) dJ5_append_3fe6f_75 rfl rfl ?_
      exact g_aret dJ5_append_3fe6f_76 rfl rfl hX2 hX1 hf

theorem okJ5_append_3fe6f (M : Mt) (h1 : 4 + 1 ≤ M.2.2.2.2.1) (h2 : 8 + (2 + 11) + 164 ≤ M.2.2.2.2.2.1) : CallOk M MtJ5_append_3fe6f yJ5_append_3fe6f 1 := ⟨t_822, h1, h2, ⟨by decide, by decide⟩, by decide +kernel, t_4⟩
abbrev MtJ4_append_cf468 : Mt := (cJ4_append_cf468, 2, "java/lang/StringBuilder", (Option.some (Jvm.ClassFile.FieldType.object "java/lang/StringBuilder")), 5, 185, false)
set_option maxRecDepth 100000 in
set_option maxHeartbeats 4000000 in
theorem wJ4_append_cf468 (l : Launch) {σ σf : St} {x0 : Nat} {x1 : Int32} {r : Nat} (hf : fJ4_append_cf468 σ x0 x1 = some (σf, r)) : Con MtJ4_append_cf468 yJ4_append_cf468 l σ [rv x0, .int x1] σf (some (rv r)) := by
  refine Con.of (by decide +kernel) rfl (fun h => absurd (show false = true from h) (by decide)) (by simp only [sl_n, sl_r, sl_i, sl_l]; exact Nat.le_of_ble_eq_true rfl) ?_
  rw [show lv_args 0 [rv x0, .int x1] = [(0, rv x0), (1, .int x1)] by simp only [la_n, la_r, la_i, la_l] <;> rfl]
  have hX1 : ((l, σ, σf, .inl (some (rv r))) : Xt).2.2.1 = σf := rfl
  have hX2 : ((l, σ, σf, .inl (some (rv r))) : Xt).2.2.2 = .inl (some (rv r)) := rfl
  unfold fJ4_append_cf468 at hf
  refine g_aload_n (j := 0) dJ4_append_cf468_0 rfl rfl ?_
  refine g_iload_n (j := 1) dJ4_append_cf468_1 rfl rfl ?_
  obtain ⟨_, h3, hf⟩ := ob hf
  obtain ⟨σ1, a2, eσ1, hf⟩ := cb_el hf
  refine g_callSU_q dJ4_append_cf468_2 (wJ5_append_3fe6f _ eσ1) (okJ5_append_3fe6f _ (by decide) (by decide)) (ckK_el h3) hc1 rfl t_820 t_2787 t_125 t_821 (by decide) rfl (Nat.le_trans (cat_le _) (Nat.le_of_ble_eq_true rfl)) rfl ?_
  refine g_pop dJ4_append_cf468_5 (rv_cat _) ?_
  refine g_aload_n (j := 0) dJ4_append_cf468_6 rfl rfl ?_
  exact g_aret dJ4_append_cf468_7 rfl rfl hX2 hX1 hf

theorem okJ4_append_cf468 (M : Mt) (h1 : 5 + 1 ≤ M.2.2.2.2.1) (h2 : 8 + (2 + 11) + 185 ≤ M.2.2.2.2.2.1) : CallOk M MtJ4_append_cf468 yJ4_append_cf468 1 := ⟨t_819, h1, h2, ⟨by decide, by decide⟩, by decide +kernel, t_5⟩
abbrev MtJ5_length_8abf5 : Mt := (cJ5_length_8abf5, 1, "java/lang/AbstractStringBuilder", (Option.some Jvm.ClassFile.FieldType.int), 1, 84, false)
set_option maxRecDepth 100000 in
set_option maxHeartbeats 4000000 in
theorem wJ5_length_8abf5 (l : Launch) {σ σf : St} {x0 : Nat} {r : Int32} (hf : fJ5_length_8abf5 σ x0 = some (σf, r)) : Con MtJ5_length_8abf5 yJ5_length_8abf5 l σ [rv x0] σf (some (.int r)) := by
  refine Con.of (by decide +kernel) rfl (fun h => absurd (show false = true from h) (by decide)) (by simp only [sl_n, sl_r, sl_i, sl_l]; exact Nat.le_of_ble_eq_true rfl) ?_
  rw [show lv_args 0 [rv x0] = [(0, rv x0)] by simp only [la_n, la_r, la_i, la_l] <;> rfl]
  have hX1 : ((l, σ, σf, .inl (some (.int r))) : Xt).2.2.1 = σf := rfl
  have hX2 : ((l, σ, σf, .inl (some (.int r))) : Xt).2.2.2 = .inl (some (.int r)) := rfl
  unfold fJ5_length_8abf5 at hf
  refine g_aload_n (j := 0) dJ5_length_8abf5_0 rfl rfl ?_
  obtain ⟨v1, ev1, hf⟩ := ob hf
  refine g_getI dJ5_length_8abf5_1 ev1 t_116 hin1 hc1 (by decide) rfl ?_
  exact g_iret dJ5_length_8abf5_4 rfl rfl hX2 hX1 hf

theorem okJ5_length_8abf5 (M : Mt) (h1 : 1 + 1 ≤ M.2.2.2.2.1) (h2 : 8 + (1 + 11) + 84 ≤ M.2.2.2.2.2.1) : CallOk M MtJ5_length_8abf5 yJ5_length_8abf5 0 := ⟨t_652, h1, h2, ⟨by decide, by decide⟩, by decide +kernel, t_4⟩
abbrev MtJ5_setLength_d00df : Mt := (cJ5_setLength_d00df, 2, "java/lang/AbstractStringBuilder", none, 4, 164, false)
set_option maxRecDepth 100000 in
set_option maxHeartbeats 4000000 in
theorem bJ5_setLength_d00df_76 {X : Xt} {σf : St} {r : Unit} (hX1 : X.2.2.1 = σf) (hX2 : X.2.2.2 = .inl (none)) {σ : St} {x0 : Nat} {x1 : Int32} (hf : fJ5_setLength_d00df_76 σ x0 x1 = some (σf, r)) : G MtJ5_setLength_d00df X σ 76 [(0, rv x0), (1, .int x1)] [] := by
  unfold fJ5_setLength_d00df_76 at hf
  refine g_aload_n (j := 0) dJ5_setLength_d00df_76 rfl rfl ?_
  refine g_iload_n (j := 1) dJ5_setLength_d00df_77 rfl rfl ?_
  obtain ⟨σ1, eσ1, hf⟩ := ob hf
  refine g_putI dJ5_setLength_d00df_78 eσ1 (Or.inl t_116) hin1 hc1 (by decide) hty1 hnm1 (Or.inl rfl) rfl rfl rfl ?_
  exact g_vret dJ5_setLength_d00df_81 rfl hX2 hX1 hf

set_option maxRecDepth 100000 in
set_option maxHeartbeats 4000000 in
theorem wJ5_setLength_d00df (l : Launch) {σ σf : St} {x0 : Nat} {x1 : Int32} {r : Unit} (hf : fJ5_setLength_d00df σ x0 x1 = some (σf, r)) : Con MtJ5_setLength_d00df yJ5_setLength_d00df l σ [rv x0, .int x1] σf (none) := by
  refine Con.of (by decide +kernel) rfl (fun h => absurd (show false = true from h) (by decide)) (by simp only [sl_n, sl_r, sl_i, sl_l]; exact Nat.le_of_ble_eq_true rfl) ?_
  rw [show lv_args 0 [rv x0, .int x1] = [(0, rv x0), (1, .int x1)] by simp only [la_n, la_r, la_i, la_l] <;> rfl]
  have hX1 : ((l, σ, σf, .inl (none)) : Xt).2.2.1 = σf := rfl
  have hX2 : ((l, σ, σf, .inl (none)) : Xt).2.2.2 = .inl (none) := rfl
  unfold fJ5_setLength_d00df at hf
  refine g_iload_n (j := 1) dJ5_setLength_d00df_0 rfl rfl ?_
  refine g_if_ge (tgt := 13) dJ5_setLength_d00df_1 (by decide) (fun c1 => ?_) (fun c1 => ?_)
  · rw [if_pos c1] at hf
    refine g_aload_n (j := 0) dJ5_setLength_d00df_13 rfl rfl ?_
    refine g_iload_n (j := 1) dJ5_setLength_d00df_14 rfl rfl ?_
    obtain ⟨_, h4, hf⟩ := ob hf
    obtain ⟨σ2, v3, eσ2, hf⟩ := cb_el hf
    refine g_callU_v (x := ⟨"java/lang/AbstractStringBuilder", "ensureCapacityInternal", "(I)V"⟩) dJ5_setLength_d00df_15 (wJ5_ensureCapacityInternal_d00df _ eσ2) (okJ5_ensureCapacityInternal_d00df _ (by decide) (by decide)) (ckK_el h4) hc1 t_495 t_2780 t_497 (TB_ex (i := 0) rfl rfl) rfl rfl (Nat.le_trans (cat_le _) (Nat.le_of_ble_eq_true rfl)) rfl ?_
    refine g_aload_n (j := 0) dJ5_setLength_d00df_18 rfl rfl ?_
    obtain ⟨v5, ev5, hf⟩ := ob hf
    refine g_getI dJ5_setLength_d00df_19 ev5 t_116 hin1 hc1 (by decide) rfl ?_
    refine g_iload_n (j := 1) dJ5_setLength_d00df_22 rfl rfl ?_
    refine g_icmp_ge (tgt := 63) dJ5_setLength_d00df_23 (by decide) (fun c6 => ?_) (fun c6 => ?_)
    · rw [if_pos c6] at hf
      refine g_aload_n (j := 0) dJ5_setLength_d00df_63 rfl rfl ?_
      obtain ⟨v7, ev7, hf⟩ := ob hf
      refine g_getI dJ5_setLength_d00df_64 ev7 t_116 hin1 hc1 (by decide) rfl ?_
      refine g_iload_n (j := 1) dJ5_setLength_d00df_67 rfl rfl ?_
      refine g_icmp_le (tgt := 76) dJ5_setLength_d00df_68 (by decide) (fun c8 => ?_) (fun c8 => ?_)
      · rw [if_pos c8] at hf
        exact bJ5_setLength_d00df_76 hX1 hX2 hf
      · rw [if_neg c8] at hf
        refine g_aload_n (j := 0) dJ5_setLength_d00df_71 rfl rfl ?_
        refine g_iconst (v := 1) dJ5_setLength_d00df_72 (by decide) ?_
        obtain ⟨σ9, eσ9, hf⟩ := ob hf
        refine g_putI dJ5_setLength_d00df_73 eσ9 (Or.inl t_114) hin1 hc1 (by decide) hty1 hnm1 (Or.inl rfl) rfl (by decide) (by decide) ?_
        exact bJ5_setLength_d00df_76 hX1 hX2 hf
    · rw [if_neg c6] at hf
      refine g_aload_n (j := 0) dJ5_setLength_d00df_26 rfl rfl ?_
      obtain ⟨_, h12, hf⟩ := ob hf
      obtain ⟨σ10, v11, eσ10, hf⟩ := cb_el hf
      refine g_callU_i (x := ⟨"java/lang/AbstractStringBuilder", "isLatin1", "()Z"⟩) dJ5_setLength_d00df_27 (wJ5_isLatin1_aae02 _ eσ10) (okJ5_isLatin1_aae02 _ (by decide) (by decide)) (ckK_el h12) hc1 t_528 t_530 t_529 t_531 rfl rfl (Nat.le_trans (cat_le _) (Nat.le_of_ble_eq_true rfl)) rfl ?_
      refine g_if_eq (tgt := 48) dJ5_setLength_d00df_30 (by decide) (fun c13 => ?_) (fun c13 => ?_)
      · rw [if_pos c13] at hf
        refine g_aload_n (j := 0) dJ5_setLength_d00df_48 rfl rfl ?_
        obtain ⟨v14, ev14, hf⟩ := ob hf
        refine g_getF dJ5_setLength_d00df_49 ev14 t_112 hin1 hc1 (by decide) rfl ?_
        refine g_aload_n (j := 0) dJ5_setLength_d00df_52 rfl rfl ?_
        obtain ⟨v15, ev15, hf⟩ := ob hf
        refine g_getI dJ5_setLength_d00df_53 ev15 t_116 hin1 hc1 (by decide) rfl ?_
        refine g_iload_n (j := 1) dJ5_setLength_d00df_56 rfl rfl ?_
        cases hf
      · rw [if_neg c13] at hf
        refine g_aload_n (j := 0) dJ5_setLength_d00df_33 rfl rfl ?_
        obtain ⟨v16, ev16, hf⟩ := ob hf
        refine g_getF dJ5_setLength_d00df_34 ev16 t_112 hin1 hc1 (by decide) rfl ?_
        refine g_aload_n (j := 0) dJ5_setLength_d00df_37 rfl rfl ?_
        obtain ⟨v17, ev17, hf⟩ := ob hf
        refine g_getI dJ5_setLength_d00df_38 ev17 t_116 hin1 hc1 (by decide) rfl ?_
        refine g_iload_n (j := 1) dJ5_setLength_d00df_41 rfl rfl ?_
        cases hf
  · rw [if_neg c1] at hf
    cases hf

theorem okJ5_setLength_d00df (M : Mt) (h1 : 4 + 1 ≤ M.2.2.2.2.1) (h2 : 8 + (2 + 11) + 164 ≤ M.2.2.2.2.2.1) : CallOk M MtJ5_setLength_d00df yJ5_setLength_d00df 1 := ⟨t_475, h1, h2, ⟨by decide, by decide⟩, by decide +kernel, t_4⟩
abbrev MtJ4_setLength_d00df : Mt := (cJ4_setLength_d00df, 2, "java/lang/StringBuilder", none, 5, 185, false)
set_option maxRecDepth 100000 in
set_option maxHeartbeats 4000000 in
theorem wJ4_setLength_d00df (l : Launch) {σ σf : St} {x0 : Nat} {x1 : Int32} {r : Unit} (hf : fJ4_setLength_d00df σ x0 x1 = some (σf, r)) : Con MtJ4_setLength_d00df yJ4_setLength_d00df l σ [rv x0, .int x1] σf (none) := by
  refine Con.of (by decide +kernel) rfl (fun h => absurd (show false = true from h) (by decide)) (by simp only [sl_n, sl_r, sl_i, sl_l]; exact Nat.le_of_ble_eq_true rfl) ?_
  rw [show lv_args 0 [rv x0, .int x1] = [(0, rv x0), (1, .int x1)] by simp only [la_n, la_r, la_i, la_l] <;> rfl]
  have hX1 : ((l, σ, σf, .inl (none)) : Xt).2.2.1 = σf := rfl
  have hX2 : ((l, σ, σf, .inl (none)) : Xt).2.2.2 = .inl (none) := rfl
  unfold fJ4_setLength_d00df at hf
  refine g_aload_n (j := 0) dJ4_setLength_d00df_0 rfl rfl ?_
  refine g_iload_n (j := 1) dJ4_setLength_d00df_1 rfl rfl ?_
  obtain ⟨_, h3, hf⟩ := ob hf
  obtain ⟨σ1, v2, eσ1, hf⟩ := cb_el hf
  refine g_callSU_v dJ4_setLength_d00df_2 (wJ5_setLength_d00df _ eσ1) (okJ5_setLength_d00df _ (by decide) (by decide)) (ckK_el h3) hc1 rfl t_473 t_2777 t_125 t_474 (by decide) rfl (Nat.le_trans (cat_le _) (Nat.le_of_ble_eq_true rfl)) rfl ?_
  exact g_vret dJ4_setLength_d00df_5 rfl hX2 hX1 hf

theorem okJ4_setLength_d00df (M : Mt) (h1 : 5 + 1 ≤ M.2.2.2.2.1) (h2 : 8 + (2 + 11) + 185 ≤ M.2.2.2.2.2.1) : CallOk M MtJ4_setLength_d00df yJ4_setLength_d00df 1 := ⟨t_472, h1, h2, ⟨by decide, by decide⟩, by decide +kernel, t_5⟩
abbrev MtJ4_length_8abf5 : Mt := (cJ4_length_8abf5, 1, "java/lang/StringBuilder", (Option.some Jvm.ClassFile.FieldType.int), 2, 104, false)
set_option maxRecDepth 100000 in
set_option maxHeartbeats 4000000 in
theorem wJ4_length_8abf5 (l : Launch) {σ σf : St} {x0 : Nat} {r : Int32} (hf : fJ4_length_8abf5 σ x0 = some (σf, r)) : Con MtJ4_length_8abf5 yJ4_length_8abf5 l σ [rv x0] σf (some (.int r)) := by
  refine Con.of (by decide +kernel) rfl (fun h => absurd (show false = true from h) (by decide)) (by simp only [sl_n, sl_r, sl_i, sl_l]; exact Nat.le_of_ble_eq_true rfl) ?_
  rw [show lv_args 0 [rv x0] = [(0, rv x0)] by simp only [la_n, la_r, la_i, la_l] <;> rfl]
  have hX1 : ((l, σ, σf, .inl (some (.int r))) : Xt).2.2.1 = σf := rfl
  have hX2 : ((l, σ, σf, .inl (some (.int r))) : Xt).2.2.2 = .inl (some (.int r)) := rfl
  unfold fJ4_length_8abf5 at hf
  refine g_aload_n (j := 0) dJ4_length_8abf5_0 rfl rfl ?_
  obtain ⟨_, h3, hf⟩ := ob hf
  obtain ⟨σ1, v2, eσ1, hf⟩ := cb_el hf
  refine g_callSU_i dJ4_length_8abf5_1 (wJ5_length_8abf5 _ eσ1) (okJ5_length_8abf5 _ (by decide) (by decide)) (ckK_el h3) hc1 rfl t_651 t_647 t_125 t_646 (by decide) rfl (Nat.le_trans (cat_le _) (Nat.le_of_ble_eq_true rfl)) rfl ?_
  exact g_iret dJ4_length_8abf5_4 rfl rfl hX2 hX1 hf

theorem okJ4_length_8abf5 (M : Mt) (h1 : 2 + 1 ≤ M.2.2.2.2.1) (h2 : 8 + (1 + 11) + 104 ≤ M.2.2.2.2.2.1) : CallOk M MtJ4_length_8abf5 yJ4_length_8abf5 0 := ⟨t_650, h1, h2, ⟨by decide, by decide⟩, by decide +kernel, t_5⟩
