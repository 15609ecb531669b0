abbrev MtX5_init : Mt := (cX5_init, 1, "ExactlySaid$Reckoner", none, 3, 126, true)
set_option maxRecDepth 100000 in
set_option maxHeartbeats 4000000 in
theorem wX5_init (l : Launch) {σ σf : St} {x0 : Nat} {r : Unit} (hf : fX5_init σ x0 = some (σf, r)) : Con MtX5_init yX5_init l σ [rv x0] σf (none) := by
  refine Con.of (by decide +kernel) rfl (fun _ => rfl) (by simp only [sl_n, sl_r, sl_i, sl_l]; exact Nat.le_of_ble_eq_true rfl) ?_
  rw [show lv_args 0 [rv x0] = [(0, rv x0)] by simp only [la_n, la_r, la_i, la_l] <;> rfl]
  have hX1 : ((l, σ, σf, .inl (none)) : Xt).2.2.1 = σf := rfl
  have hX2 : ((l, σ, σf, .inl (none)) : Xt).2.2.2 = .inl (none) := rfl
  unfold fX5_init at hf
  refine g_aload_n (j := 0) dX5_init_0 rfl rfl ?_
  obtain ⟨_, h1, hf⟩ := ob hf
  refine g_objInit dX5_init_1 (of_decide_eq_true (ckP_el h1)) t_154 t_42 t_43 (by decide) (by decide) (Nat.le_of_ble_eq_true rfl) ?_
  refine g_aload_n (j := 0) dX5_init_4 rfl rfl ?_
  obtain ⟨σ2, eσ2, hf⟩ := nm_el hf
  obtain ⟨a3, ea3, hf⟩ := nm_el hf
  refine g_new9 dX5_init_5 hc7 hin7 hty7 hdf7 t_155 t_51 t_3 eσ2 ea3 ?_
  refine g_dup dX5_init_8 (rv_cat _) ?_
  obtain ⟨_, h6, hf⟩ := ob hf
  obtain ⟨σ4, v5, eσ4, hf⟩ := cb_el hf
  refine g_callIN dX5_init_9 (wX3_init _ eσ4) (okX3_init _ (by decide) (by decide)) rfl (by rw [ckK_el h6]; decide) rfl t_156 t_53 rfl (Nat.le_trans (cat_le _) (Nat.le_of_ble_eq_true rfl)) rfl ?_
  obtain ⟨σ7, eσ7, hf⟩ := ob hf
  refine g_putF dX5_init_12 eσ7 (Or.inl t_159) hin9 hc9 (by decide) hty9 hnm9 (Or.inr ⟨rfl, rfl, t_159⟩) rfl ?_
  refine g_aload_n (j := 0) dX5_init_15 rfl rfl ?_
  obtain ⟨σ8, eσ8, hf⟩ := nm_el hf
  obtain ⟨a9, ea9, hf⟩ := nm_el hf
  refine g_new9 dX5_init_16 hc7 hin7 hty7 hdf7 t_155 t_51 t_3 eσ8 ea9 ?_
  refine g_dup dX5_init_19 (rv_cat _) ?_
  obtain ⟨_, h12, hf⟩ := ob hf
  obtain ⟨σ10, v11, eσ10, hf⟩ := cb_el hf
  refine g_callIN dX5_init_20 (wX3_init _ eσ10) (okX3_init _ (by decide) (by decide)) rfl (by rw [ckK_el h12]; decide) rfl t_156 t_53 rfl (Nat.le_trans (cat_le _) (Nat.le_of_ble_eq_true rfl)) rfl ?_
  obtain ⟨σ13, eσ13, hf⟩ := ob hf
  refine g_putF dX5_init_23 eσ13 (Or.inl t_160) hin9 hc9 (by decide) hty9 hnm9 (Or.inr ⟨rfl, rfl, t_160⟩) rfl ?_
  refine g_aload_n (j := 0) dX5_init_26 rfl rfl ?_
  obtain ⟨σ14, eσ14, hf⟩ := nm_el hf
  obtain ⟨a15, ea15, hf⟩ := nm_el hf
  refine g_new9 dX5_init_27 hc7 hin7 hty7 hdf7 t_155 t_51 t_3 eσ14 ea15 ?_
  refine g_dup dX5_init_30 (rv_cat _) ?_
  obtain ⟨_, h18, hf⟩ := ob hf
  obtain ⟨σ16, v17, eσ16, hf⟩ := cb_el hf
  refine g_callIN dX5_init_31 (wX3_init _ eσ16) (okX3_init _ (by decide) (by decide)) rfl (by rw [ckK_el h18]; decide) rfl t_156 t_53 rfl (Nat.le_trans (cat_le _) (Nat.le_of_ble_eq_true rfl)) rfl ?_
  obtain ⟨σ19, eσ19, hf⟩ := ob hf
  refine g_putF dX5_init_34 eσ19 (Or.inl t_161) hin9 hc9 (by decide) hty9 hnm9 (Or.inr ⟨rfl, rfl, t_161⟩) rfl ?_
  refine g_aload_n (j := 0) dX5_init_37 rfl rfl ?_
  obtain ⟨σ20, eσ20, hf⟩ := nm_el hf
  obtain ⟨a21, ea21, hf⟩ := nm_el hf
  refine g_new9 dX5_init_38 hc7 hin7 hty7 hdf7 t_155 t_51 t_3 eσ20 ea21 ?_
  refine g_dup dX5_init_41 (rv_cat _) ?_
  obtain ⟨_, h24, hf⟩ := ob hf
  obtain ⟨σ22, v23, eσ22, hf⟩ := cb_el hf
  refine g_callIN dX5_init_42 (wX3_init _ eσ22) (okX3_init _ (by decide) (by decide)) rfl (by rw [ckK_el h24]; decide) rfl t_156 t_53 rfl (Nat.le_trans (cat_le _) (Nat.le_of_ble_eq_true rfl)) rfl ?_
  obtain ⟨σ25, eσ25, hf⟩ := ob hf
  refine g_putF dX5_init_45 eσ25 (Or.inl t_162) hin9 hc9 (by decide) hty9 hnm9 (Or.inr ⟨rfl, rfl, t_162⟩) rfl ?_
  refine g_aload_n (j := 0) dX5_init_48 rfl rfl ?_
  obtain ⟨σ26, eσ26, hf⟩ := nm_el hf
  obtain ⟨a27, ea27, hf⟩ := nm_el hf
  refine g_new9 dX5_init_49 hc7 hin7 hty7 hdf7 t_155 t_51 t_3 eσ26 ea27 ?_
  refine g_dup dX5_init_52 (rv_cat _) ?_
  obtain ⟨_, h30, hf⟩ := ob hf
  obtain ⟨σ28, v29, eσ28, hf⟩ := cb_el hf
  refine g_callIN dX5_init_53 (wX3_init _ eσ28) (okX3_init _ (by decide) (by decide)) rfl (by rw [ckK_el h30]; decide) rfl t_156 t_53 rfl (Nat.le_trans (cat_le _) (Nat.le_of_ble_eq_true rfl)) rfl ?_
  obtain ⟨σ31, eσ31, hf⟩ := ob hf
  refine g_putF dX5_init_56 eσ31 (Or.inl t_163) hin9 hc9 (by decide) hty9 hnm9 (Or.inr ⟨rfl, rfl, t_163⟩) rfl ?_
  refine g_aload_n (j := 0) dX5_init_59 rfl rfl ?_
  obtain ⟨σ32, eσ32, hf⟩ := nm_el hf
  obtain ⟨a33, ea33, hf⟩ := nm_el hf
  refine g_new9 dX5_init_60 hc7 hin7 hty7 hdf7 t_155 t_51 t_3 eσ32 ea33 ?_
  refine g_dup dX5_init_63 (rv_cat _) ?_
  obtain ⟨_, h36, hf⟩ := ob hf
  obtain ⟨σ34, v35, eσ34, hf⟩ := cb_el hf
  refine g_callIN dX5_init_64 (wX3_init _ eσ34) (okX3_init _ (by decide) (by decide)) rfl (by rw [ckK_el h36]; decide) rfl t_156 t_53 rfl (Nat.le_trans (cat_le _) (Nat.le_of_ble_eq_true rfl)) rfl ?_
  obtain ⟨σ37, eσ37, hf⟩ := ob hf
  refine g_putF dX5_init_67 eσ37 (Or.inl t_164) hin9 hc9 (by decide) hty9 hnm9 (Or.inr ⟨rfl, rfl, t_164⟩) rfl ?_
  refine g_aload_n (j := 0) dX5_init_70 rfl rfl ?_
  obtain ⟨σ38, eσ38, hf⟩ := nm_el hf
  obtain ⟨a39, ea39, hf⟩ := nm_el hf
  refine g_new9 dX5_init_71 hc7 hin7 hty7 hdf7 t_155 t_51 t_3 eσ38 ea39 ?_
  refine g_dup dX5_init_74 (rv_cat _) ?_
  obtain ⟨_, h42, hf⟩ := ob hf
  obtain ⟨σ40, v41, eσ40, hf⟩ := cb_el hf
  refine g_callIN dX5_init_75 (wX3_init _ eσ40) (okX3_init _ (by decide) (by decide)) rfl (by rw [ckK_el h42]; decide) rfl t_156 t_53 rfl (Nat.le_trans (cat_le _) (Nat.le_of_ble_eq_true rfl)) rfl ?_
  obtain ⟨σ43, eσ43, hf⟩ := ob hf
  refine g_putF dX5_init_78 eσ43 (Or.inl t_165) hin9 hc9 (by decide) hty9 hnm9 (Or.inr ⟨rfl, rfl, t_165⟩) rfl ?_
  refine g_aload_n (j := 0) dX5_init_81 rfl rfl ?_
  obtain ⟨σ44, eσ44, hf⟩ := nm_el hf
  obtain ⟨a45, ea45, hf⟩ := nm_el hf
  refine g_new9 dX5_init_82 hc7 hin7 hty7 hdf7 t_155 t_51 t_3 eσ44 ea45 ?_
  refine g_dup dX5_init_85 (rv_cat _) ?_
  obtain ⟨_, h48, hf⟩ := ob hf
  obtain ⟨σ46, v47, eσ46, hf⟩ := cb_el hf
  refine g_callIN dX5_init_86 (wX3_init _ eσ46) (okX3_init _ (by decide) (by decide)) rfl (by rw [ckK_el h48]; decide) rfl t_156 t_53 rfl (Nat.le_trans (cat_le _) (Nat.le_of_ble_eq_true rfl)) rfl ?_
  obtain ⟨σ49, eσ49, hf⟩ := ob hf
  refine g_putF dX5_init_89 eσ49 (Or.inl t_166) hin9 hc9 (by decide) hty9 hnm9 (Or.inr ⟨rfl, rfl, t_166⟩) rfl ?_
  refine g_aload_n (j := 0) dX5_init_92 rfl rfl ?_
  obtain ⟨σ50, eσ50, hf⟩ := nm_el hf
  obtain ⟨a51, ea51, hf⟩ := nm_el hf
  refine g_new9 dX5_init_93 hc7 hin7 hty7 hdf7 t_155 t_51 t_3 eσ50 ea51 ?_
  refine g_dup dX5_init_96 (rv_cat _) ?_
  obtain ⟨_, h54, hf⟩ := ob hf
  obtain ⟨σ52, v53, eσ52, hf⟩ := cb_el hf
  refine g_callIN dX5_init_97 (wX3_init _ eσ52) (okX3_init _ (by decide) (by decide)) rfl (by rw [ckK_el h54]; decide) rfl t_156 t_53 rfl (Nat.le_trans (cat_le _) (Nat.le_of_ble_eq_true rfl)) rfl ?_
  obtain ⟨σ55, eσ55, hf⟩ := ob hf
  refine g_putF dX5_init_100 eσ55 (Or.inl t_167) hin9 hc9 (by decide) hty9 hnm9 (Or.inr ⟨rfl, rfl, t_167⟩) rfl ?_
  refine g_aload_n (j := 0) dX5_init_103 rfl rfl ?_
  obtain ⟨σ56, eσ56, hf⟩ := nm_el hf
  obtain ⟨a57, ea57, hf⟩ := nm_el hf
  refine g_new9 dX5_init_104 hc7 hin7 hty7 hdf7 t_155 t_51 t_3 eσ56 ea57 ?_
  refine g_dup dX5_init_107 (rv_cat _) ?_
  obtain ⟨_, h60, hf⟩ := ob hf
  obtain ⟨σ58, v59, eσ58, hf⟩ := cb_el hf
  refine g_callIN dX5_init_108 (wX3_init _ eσ58) (okX3_init _ (by decide) (by decide)) rfl (by rw [ckK_el h60]; decide) rfl t_156 t_53 rfl (Nat.le_trans (cat_le _) (Nat.le_of_ble_eq_true rfl)) rfl ?_
  obtain ⟨σ61, eσ61, hf⟩ := ob hf
  refine g_putF dX5_init_111 eσ61 (Or.inl t_168) hin9 hc9 (by decide) hty9 hnm9 (Or.inr ⟨rfl, rfl, t_168⟩) rfl ?_
  refine g_aload_n (j := 0) dX5_init_114 rfl rfl ?_
  obtain ⟨σ62, eσ62, hf⟩ := nm_el hf
  obtain ⟨a63, ea63, hf⟩ := nm_el hf
  refine g_new9 dX5_init_115 hc7 hin7 hty7 hdf7 t_155 t_51 t_3 eσ62 ea63 ?_
  refine g_dup dX5_init_118 (rv_cat _) ?_
  obtain ⟨_, h66, hf⟩ := ob hf
  obtain ⟨σ64, v65, eσ64, hf⟩ := cb_el hf
  refine g_callIN dX5_init_119 (wX3_init _ eσ64) (okX3_init _ (by decide) (by decide)) rfl (by rw [ckK_el h66]; decide) rfl t_156 t_53 rfl (Nat.le_trans (cat_le _) (Nat.le_of_ble_eq_true rfl)) rfl ?_
  obtain ⟨σ67, eσ67, hf⟩ := ob hf
  refine g_putF dX5_init_122 eσ67 (Or.inl t_169) hin9 hc9 (by decide) hty9 hnm9 (Or.inr ⟨rfl, rfl, t_169⟩) rfl ?_
  refine g_aload_n (j := 0) dX5_init_125 rfl rfl ?_
  obtain ⟨σ68, eσ68, hf⟩ := nm_el hf
  obtain ⟨a69, ea69, hf⟩ := nm_el hf
  refine g_new9 dX5_init_126 hc7 hin7 hty7 hdf7 t_155 t_51 t_3 eσ68 ea69 ?_
  refine g_dup dX5_init_129 (rv_cat _) ?_
  obtain ⟨_, h72, hf⟩ := ob hf
  obtain ⟨σ70, v71, eσ70, hf⟩ := cb_el hf
  refine g_callIN dX5_init_130 (wX3_init _ eσ70) (okX3_init _ (by decide) (by decide)) rfl (by rw [ckK_el h72]; decide) rfl t_156 t_53 rfl (Nat.le_trans (cat_le _) (Nat.le_of_ble_eq_true rfl)) rfl ?_
  obtain ⟨σ73, eσ73, hf⟩ := ob hf
  refine g_putF dX5_init_133 eσ73 (Or.inl t_170) hin9 hc9 (by decide) hty9 hnm9 (Or.inr ⟨rfl, rfl, t_170⟩) rfl ?_
  refine g_aload_n (j := 0) dX5_init_136 rfl rfl ?_
  obtain ⟨σ74, eσ74, hf⟩ := nm_el hf
  obtain ⟨a75, ea75, hf⟩ := nm_el hf
  refine g_new9 dX5_init_137 hc7 hin7 hty7 hdf7 t_155 t_51 t_3 eσ74 ea75 ?_
  refine g_dup dX5_init_140 (rv_cat _) ?_
  obtain ⟨_, h78, hf⟩ := ob hf
  obtain ⟨σ76, v77, eσ76, hf⟩ := cb_el hf
  refine g_callIN dX5_init_141 (wX3_init _ eσ76) (okX3_init _ (by decide) (by decide)) rfl (by rw [ckK_el h78]; decide) rfl t_156 t_53 rfl (Nat.le_trans (cat_le _) (Nat.le_of_ble_eq_true rfl)) rfl ?_
  obtain ⟨σ79, eσ79, hf⟩ := ob hf
  refine g_putF dX5_init_144 eσ79 (Or.inl t_171) hin9 hc9 (by decide) hty9 hnm9 (Or.inr ⟨rfl, rfl, t_171⟩) rfl ?_
  refine g_aload_n (j := 0) dX5_init_147 rfl rfl ?_
  obtain ⟨σ80, eσ80, hf⟩ := nm_el hf
  obtain ⟨a81, ea81, hf⟩ := nm_el hf
  refine g_new9 dX5_init_148 hc5 hin5 hty5 hdf5 t_157 t_45 t_2 eσ80 ea81 ?_
  refine g_dup dX5_init_151 (rv_cat _) ?_
  obtain ⟨_, h84, hf⟩ := ob hf
  obtain ⟨σ82, v83, eσ82, hf⟩ := cb_el hf
  refine g_callIN dX5_init_152 (wX1_init _ eσ82) (okX1_init _ (by decide) (by decide)) rfl (by rw [ckK_el h84]; decide) rfl t_158 t_47 rfl (Nat.le_trans (cat_le _) (Nat.le_of_ble_eq_true rfl)) rfl ?_
  obtain ⟨σ85, eσ85, hf⟩ := ob hf
  refine g_putF dX5_init_155 eσ85 (Or.inl t_172) hin9 hc9 (by decide) hty9 hnm9 (Or.inr ⟨rfl, rfl, t_172⟩) rfl ?_
  refine g_aload_n (j := 0) dX5_init_158 rfl rfl ?_
  obtain ⟨σ86, eσ86, hf⟩ := nm_el hf
  obtain ⟨a87, ea87, hf⟩ := nm_el hf
  refine g_new9 dX5_init_159 hc5 hin5 hty5 hdf5 t_157 t_45 t_2 eσ86 ea87 ?_
  refine g_dup dX5_init_162 (rv_cat _) ?_
  obtain ⟨_, h90, hf⟩ := ob hf
  obtain ⟨σ88, v89, eσ88, hf⟩ := cb_el hf
  refine g_callIN dX5_init_163 (wX1_init _ eσ88) (okX1_init _ (by decide) (by decide)) rfl (by rw [ckK_el h90]; decide) rfl t_158 t_47 rfl (Nat.le_trans (cat_le _) (Nat.le_of_ble_eq_true rfl)) rfl ?_
  obtain ⟨σ91, eσ91, hf⟩ := ob hf
  refine g_putF dX5_init_166 eσ91 (Or.inl t_173) hin9 hc9 (by decide) hty9 hnm9 (Or.inr ⟨rfl, rfl, t_173⟩) rfl ?_
  refine g_aload_n (j := 0) dX5_init_169 rfl rfl ?_
  obtain ⟨σ92, eσ92, hf⟩ := nm_el hf
  obtain ⟨a93, ea93, hf⟩ := nm_el hf
  refine g_new9 dX5_init_170 hc5 hin5 hty5 hdf5 t_157 t_45 t_2 eσ92 ea93 ?_
  refine g_dup dX5_init_173 (rv_cat _) ?_
  obtain ⟨_, h96, hf⟩ := ob hf
  obtain ⟨σ94, v95, eσ94, hf⟩ := cb_el hf
  refine g_callIN dX5_init_174 (wX1_init _ eσ94) (okX1_init _ (by decide) (by decide)) rfl (by rw [ckK_el h96]; decide) rfl t_158 t_47 rfl (Nat.le_trans (cat_le _) (Nat.le_of_ble_eq_true rfl)) rfl ?_
  obtain ⟨σ97, eσ97, hf⟩ := ob hf
  refine g_putF dX5_init_177 eσ97 (Or.inl t_174) hin9 hc9 (by decide) hty9 hnm9 (Or.inr ⟨rfl, rfl, t_174⟩) rfl ?_
  refine g_aload_n (j := 0) dX5_init_180 rfl rfl ?_
  obtain ⟨σ98, eσ98, hf⟩ := nm_el hf
  obtain ⟨a99, ea99, hf⟩ := nm_el hf
  refine g_new9 dX5_init_181 hc5 hin5 hty5 hdf5 t_157 t_45 t_2 eσ98 ea99 ?_
  refine g_dup dX5_init_184 (rv_cat _) ?_
  obtain ⟨_, h102, hf⟩ := ob hf
  obtain ⟨σ100, v101, eσ100, hf⟩ := cb_el hf
  refine g_callIN dX5_init_185 (wX1_init _ eσ100) (okX1_init _ (by decide) (by decide)) rfl (by rw [ckK_el h102]; decide) rfl t_158 t_47 rfl (Nat.le_trans (cat_le _) (Nat.le_of_ble_eq_true rfl)) rfl ?_
  obtain ⟨σ103, eσ103, hf⟩ := ob hf
  refine g_putF dX5_init_188 eσ103 (Or.inl t_175) hin9 hc9 (by decide) hty9 hnm9 (Or.inr ⟨rfl, rfl, t_175⟩) rfl ?_
  exact g_vret dX5_init_191 rfl hX2 hX1 hf

theorem okX5_init (M : Mt) (h1 : 3 + 1 ≤ M.2.2.2.2.1) (h2 : 8 + (1 + 11) + 126 ≤ M.2.2.2.2.2.1) : CallOk M MtX5_init yX5_init 0 := ⟨t_153, h1, h2, ⟨by decide, by decide⟩, by decide +kernel, t_9⟩
abbrev MtX4_init : Mt := (cX4_init, 1, "ExactlySaid$Reader", none, 1, 84, true)
set_option maxRecDepth 100000 in
set_option maxHeartbeats 4000000 in
theorem wX4_init (l : Launch) {σ σf : St} {x0 : Nat} {r : Unit} (hf : fX4_init σ x0 = some (σf, r)) : Con MtX4_init yX4_init l σ [rv x0] σf (none) := by
  refine Con.of (by decide +kernel) rfl (fun _ => rfl) (by simp only [sl_n, sl_r, sl_i, sl_l]; exact Nat.le_of_ble_eq_true rfl) ?_
  rw [show lv_args 0 [rv x0] = [(0, rv x0)] by simp only [la_n, la_r, la_i, la_l] <;> rfl]
  have hX1 : ((l, σ, σf, .inl (none)) : Xt).2.2.1 = σf := rfl
  have hX2 : ((l, σ, σf, .inl (none)) : Xt).2.2.2 = .inl (none) := rfl
  unfold fX4_init at hf
  refine g_aload_n (j := 0) dX4_init_0 rfl rfl ?_
  obtain ⟨_, h1, hf⟩ := ob hf
  refine g_objInit dX4_init_1 (of_decide_eq_true (ckP_el h1)) t_217 t_42 t_43 (by decide) (by decide) (Nat.le_of_ble_eq_true rfl) ?_
  refine g_aload_n (j := 0) dX4_init_4 rfl rfl ?_
  refine g_sipush (v := 200) dX4_init_5 (by decide) ?_
  obtain ⟨σ2, eσ2, hf⟩ := ob hf
  obtain ⟨a3, ea3, hf⟩ := nm_el hf
  refine g_newa9 dX4_init_8 eσ2 (by decide) rfl (by decide) rfl t_66 ea3 ?_
  obtain ⟨σ4, eσ4, hf⟩ := ob hf
  refine g_putF dX4_init_10 eσ4 (Or.inl t_218) hin8 hc8 (by decide) hty8 hnm8 (Or.inr ⟨rfl, rfl, t_218⟩) rfl ?_
  refine g_aload_n (j := 0) dX4_init_13 rfl rfl ?_
  refine g_sipush (v := 201) dX4_init_14 (by decide) ?_
  obtain ⟨σ5, eσ5, hf⟩ := ob hf
  obtain ⟨a6, ea6, hf⟩ := nm_el hf
  refine g_newa9 dX4_init_17 eσ5 (by decide) rfl (by decide) rfl t_66 ea6 ?_
  obtain ⟨σ7, eσ7, hf⟩ := ob hf
  refine g_putF dX4_init_19 eσ7 (Or.inl t_220) hin8 hc8 (by decide) hty8 hnm8 (Or.inr ⟨rfl, rfl, t_220⟩) rfl ?_
  refine g_aload_n (j := 0) dX4_init_22 rfl rfl ?_
  refine g_sipush (v := 201) dX4_init_23 (by decide) ?_
  obtain ⟨σ8, eσ8, hf⟩ := ob hf
  obtain ⟨a9, ea9, hf⟩ := nm_el hf
  refine g_newa9 dX4_init_26 eσ8 (by decide) rfl (by decide) rfl t_66 ea9 ?_
  obtain ⟨σ10, eσ10, hf⟩ := ob hf
  refine g_putF dX4_init_28 eσ10 (Or.inl t_221) hin8 hc8 (by decide) hty8 hnm8 (Or.inr ⟨rfl, rfl, t_221⟩) rfl ?_
  refine g_aload_n (j := 0) dX4_init_31 rfl rfl ?_
  refine g_sipush (v := 201) dX4_init_32 (by decide) ?_
  obtain ⟨σ11, eσ11, hf⟩ := ob hf
  obtain ⟨a12, ea12, hf⟩ := nm_el hf
  refine g_newa9 dX4_init_35 eσ11 (by decide) rfl (by decide) rfl t_66 ea12 ?_
  obtain ⟨σ13, eσ13, hf⟩ := ob hf
  refine g_putF dX4_init_37 eσ13 (Or.inl t_222) hin8 hc8 (by decide) hty8 hnm8 (Or.inr ⟨rfl, rfl, t_222⟩) rfl ?_
  refine g_aload_n (j := 0) dX4_init_40 rfl rfl ?_
  refine g_sipush (v := 200) dX4_init_41 (by decide) ?_
  obtain ⟨σ14, eσ14, hf⟩ := ob hf
  obtain ⟨a15, ea15, hf⟩ := nm_el hf
  refine g_newa9 dX4_init_44 eσ14 (by decide) rfl (by decide) rfl t_66 ea15 ?_
  obtain ⟨σ16, eσ16, hf⟩ := ob hf
  refine g_putF dX4_init_46 eσ16 (Or.inl t_225) hin8 hc8 (by decide) hty8 hnm8 (Or.inr ⟨rfl, rfl, t_225⟩) rfl ?_
  refine g_aload_n (j := 0) dX4_init_49 rfl rfl ?_
  refine g_sipush (v := 200) dX4_init_50 (by decide) ?_
  obtain ⟨σ17, eσ17, hf⟩ := ob hf
  obtain ⟨a18, ea18, hf⟩ := nm_el hf
  refine g_newa9 dX4_init_53 eσ17 (by decide) rfl (by decide) rfl t_66 ea18 ?_
  obtain ⟨σ19, eσ19, hf⟩ := ob hf
  refine g_putF dX4_init_55 eσ19 (Or.inl t_226) hin8 hc8 (by decide) hty8 hnm8 (Or.inr ⟨rfl, rfl, t_226⟩) rfl ?_
  refine g_aload_n (j := 0) dX4_init_58 rfl rfl ?_
  refine g_sipush (v := 200) dX4_init_59 (by decide) ?_
  obtain ⟨σ20, eσ20, hf⟩ := ob hf
  obtain ⟨a21, ea21, hf⟩ := nm_el hf
  refine g_newa9 dX4_init_62 eσ20 (by decide) rfl (by decide) rfl t_66 ea21 ?_
  obtain ⟨σ22, eσ22, hf⟩ := ob hf
  refine g_putF dX4_init_64 eσ22 (Or.inl t_227) hin8 hc8 (by decide) hty8 hnm8 (Or.inr ⟨rfl, rfl, t_227⟩) rfl ?_
  refine g_aload_n (j := 0) dX4_init_67 rfl rfl ?_
  refine g_sipush (v := 200) dX4_init_68 (by decide) ?_
  obtain ⟨σ23, eσ23, hf⟩ := ob hf
  obtain ⟨a24, ea24, hf⟩ := nm_el hf
  refine g_newa9 dX4_init_71 eσ23 (by decide) rfl (by decide) rfl t_66 ea24 ?_
  obtain ⟨σ25, eσ25, hf⟩ := ob hf
  refine g_putF dX4_init_73 eσ25 (Or.inl t_228) hin8 hc8 (by decide) hty8 hnm8 (Or.inr ⟨rfl, rfl, t_228⟩) rfl ?_
  refine g_aload_n (j := 0) dX4_init_76 rfl rfl ?_
  refine g_iconst (v := 4) dX4_init_77 (by decide) ?_
  obtain ⟨σ26, eσ26, hf⟩ := ob hf
  obtain ⟨a27, ea27, hf⟩ := nm_el hf
  refine g_newa9 dX4_init_78 eσ26 (by decide) rfl (by decide) rfl t_66 ea27 ?_
  obtain ⟨σ28, eσ28, hf⟩ := ob hf
  refine g_putF dX4_init_80 eσ28 (Or.inl t_237) hin8 hc8 (by decide) hty8 hnm8 (Or.inr ⟨rfl, rfl, t_237⟩) rfl ?_
  exact g_vret dX4_init_83 rfl hX2 hX1 hf

theorem okX4_init (M : Mt) (h1 : 1 + 1 ≤ M.2.2.2.2.1) (h2 : 8 + (1 + 11) + 84 ≤ M.2.2.2.2.2.1) : CallOk M MtX4_init yX4_init 0 := ⟨t_216, h1, h2, ⟨by decide, by decide⟩, by decide +kernel, t_10⟩
abbrev MtX2_init : Mt := (cX2_init, 1, "ExactlySaid$Machine", none, 3, 126, true)
set_option maxRecDepth 100000 in
set_option maxHeartbeats 4000000 in
theorem wX2_init (l : Launch) {σ σf : St} {x0 : Nat} {r : Unit} (hf : fX2_init σ x0 = some (σf, r)) : Con MtX2_init yX2_init l σ [rv x0] σf (none) := by
  refine Con.of (by decide +kernel) rfl (fun _ => rfl) (by simp only [sl_n, sl_r, sl_i, sl_l]; exact Nat.le_of_ble_eq_true rfl) ?_
  rw [show lv_args 0 [rv x0] = [(0, rv x0)] by simp only [la_n, la_r, la_i, la_l] <;> rfl]
  have hX1 : ((l, σ, σf, .inl (none)) : Xt).2.2.1 = σf := rfl
  have hX2 : ((l, σ, σf, .inl (none)) : Xt).2.2.2 = .inl (none) := rfl
  unfold fX2_init at hf
  refine g_aload_n (j := 0) dX2_init_0 rfl rfl ?_
  obtain ⟨_, h1, hf⟩ := ob hf
  refine g_objInit dX2_init_1 (of_decide_eq_true (ckP_el h1)) t_286 t_42 t_43 (by decide) (by decide) (Nat.le_of_ble_eq_true rfl) ?_
  refine g_aload_n (j := 0) dX2_init_4 rfl rfl ?_
  refine g_sipush (v := 1000) dX2_init_5 (by decide) ?_
  obtain ⟨σ2, eσ2, hf⟩ := ob hf
  obtain ⟨a3, ea3, hf⟩ := nm_el hf
  refine g_newq9 dX2_init_8 eσ2 (by decide) rfl t_287 t_93 ea3 ?_
  obtain ⟨σ4, eσ4, hf⟩ := ob hf
  refine g_putF dX2_init_11 eσ4 (Or.inl t_291) hin6 hc6 (by decide) hty6 hnm6 (Or.inr ⟨rfl, rfl, t_291⟩) rfl ?_
  refine g_aload_n (j := 0) dX2_init_14 rfl rfl ?_
  refine g_bipush (v := 11) dX2_init_15 (by decide) ?_
  obtain ⟨σ5, eσ5, hf⟩ := ob hf
  obtain ⟨a6, ea6, hf⟩ := nm_el hf
  refine g_newq9 dX2_init_17 eσ5 (by decide) rfl t_288 t_289 ea6 ?_
  obtain ⟨σ7, eσ7, hf⟩ := ob hf
  refine g_putF dX2_init_20 eσ7 (Or.inl t_293) hin6 hc6 (by decide) hty6 hnm6 (Or.inr ⟨rfl, rfl, t_293⟩) rfl ?_
  refine g_aload_n (j := 0) dX2_init_23 rfl rfl ?_
  refine g_bipush (v := 11) dX2_init_24 (by decide) ?_
  obtain ⟨σ8, eσ8, hf⟩ := ob hf
  obtain ⟨a9, ea9, hf⟩ := nm_el hf
  refine g_newa9 dX2_init_26 eσ8 (by decide) rfl (by decide) rfl t_66 ea9 ?_
  obtain ⟨σ10, eσ10, hf⟩ := ob hf
  refine g_putF dX2_init_28 eσ10 (Or.inl t_294) hin6 hc6 (by decide) hty6 hnm6 (Or.inr ⟨rfl, rfl, t_294⟩) rfl ?_
  refine g_aload_n (j := 0) dX2_init_31 rfl rfl ?_
  refine g_bipush (v := 11) dX2_init_32 (by decide) ?_
  obtain ⟨σ11, eσ11, hf⟩ := ob hf
  obtain ⟨a12, ea12, hf⟩ := nm_el hf
  refine g_newa9 dX2_init_34 eσ11 (by decide) rfl (by decide) rfl t_66 ea12 ?_
  obtain ⟨σ13, eσ13, hf⟩ := ob hf
  refine g_putF dX2_init_36 eσ13 (Or.inl t_295) hin6 hc6 (by decide) hty6 hnm6 (Or.inr ⟨rfl, rfl, t_295⟩) rfl ?_
  refine g_aload_n (j := 0) dX2_init_39 rfl rfl ?_
  obtain ⟨σ14, eσ14, hf⟩ := nm_el hf
  obtain ⟨a15, ea15, hf⟩ := nm_el hf
  refine g_new9 dX2_init_40 hc5 hin5 hty5 hdf5 t_287 t_45 t_2 eσ14 ea15 ?_
  refine g_dup dX2_init_43 (rv_cat _) ?_
  obtain ⟨_, h18, hf⟩ := ob hf
  obtain ⟨σ16, v17, eσ16, hf⟩ := cb_el hf
  refine g_callIN dX2_init_44 (wX1_init _ eσ16) (okX1_init _ (by decide) (by decide)) rfl (by rw [ckK_el h18]; decide) rfl t_290 t_47 rfl (Nat.le_trans (cat_le _) (Nat.le_of_ble_eq_true rfl)) rfl ?_
  obtain ⟨σ19, eσ19, hf⟩ := ob hf
  refine g_putF dX2_init_47 eσ19 (Or.inl t_300) hin6 hc6 (by decide) hty6 hnm6 (Or.inr ⟨rfl, rfl, t_300⟩) rfl ?_
  exact g_vret dX2_init_50 rfl hX2 hX1 hf

theorem okX2_init (M : Mt) (h1 : 3 + 1 ≤ M.2.2.2.2.1) (h2 : 8 + (1 + 11) + 126 ≤ M.2.2.2.2.2.1) : CallOk M MtX2_init yX2_init 0 := ⟨t_285, h1, h2, ⟨by decide, by decide⟩, by decide +kernel, t_11⟩
abbrev MtX0_init : Mt := (cX0_init, 3, "ExactlySaid$Book", none, 1, 84, true)
set_option maxRecDepth 100000 in
set_option maxHeartbeats 4000000 in
theorem wX0_init (l : Launch) {σ σf : St} {x0 : Nat} {x1 : Nat} {x2 : Nat} {r : Unit} (hf : fX0_init σ x0 x1 x2 = some (σf, r)) : Con MtX0_init yX0_init l σ [rv x0, rv x1, rv x2] σf (none) := by
  refine Con.of (by decide +kernel) rfl (fun _ => rfl) (by simp only [sl_n, sl_r, sl_i, sl_l]; exact Nat.le_of_ble_eq_true rfl) ?_
  rw [show lv_args 0 [rv x0, rv x1, rv x2] = [(0, rv x0), (1, rv x1), (2, rv x2)] by simp only [la_n, la_r, la_i, la_l] <;> rfl]
  have hX1 : ((l, σ, σf, .inl (none)) : Xt).2.2.1 = σf := rfl
  have hX2 : ((l, σ, σf, .inl (none)) : Xt).2.2.2 = .inl (none) := rfl
  unfold fX0_init at hf
  refine g_aload_n (j := 0) dX0_init_0 rfl rfl ?_
  obtain ⟨_, h1, hf⟩ := ob hf
  refine g_objInit dX0_init_1 (of_decide_eq_true (ckP_el h1)) t_333 t_42 t_43 (by decide) (by decide) (Nat.le_of_ble_eq_true rfl) ?_
  refine g_aload_n (j := 0) dX0_init_4 rfl rfl ?_
  refine g_aload_n (j := 1) dX0_init_5 rfl rfl ?_
  obtain ⟨σ2, eσ2, hf⟩ := ob hf
  refine g_putF dX0_init_6 eσ2 (Or.inl t_334) hin4 hc4 (by decide) hty4 hnm4 (Or.inr ⟨rfl, rfl, t_334⟩) rfl ?_
  refine g_aload_n (j := 0) dX0_init_9 rfl rfl ?_
  refine g_aload_n (j := 2) dX0_init_10 rfl rfl ?_
  obtain ⟨σ3, eσ3, hf⟩ := ob hf
  refine g_putF dX0_init_11 eσ3 (Or.inl t_336) hin4 hc4 (by decide) hty4 hnm4 (Or.inr ⟨rfl, rfl, t_336⟩) rfl ?_
  refine g_aload_n (j := 0) dX0_init_14 rfl rfl ?_
  refine g_aload_n (j := 1) dX0_init_15 rfl rfl ?_
  obtain ⟨v4, ev4, hf⟩ := ob hf
  refine g_alen dX0_init_16 ev4 ?_
  refine g_aload_n (j := 2) dX0_init_17 rfl rfl ?_
  obtain ⟨v5, ev5, hf⟩ := ob hf
  refine g_alen dX0_init_18 ev5 ?_
  refine g_iadd dX0_init_19 ?_
  obtain ⟨σ6, eσ6, hf⟩ := ob hf
  obtain ⟨a7, ea7, hf⟩ := nm_el hf
  refine g_newa9 dX0_init_20 eσ6 (by decide) rfl (by decide) rfl t_66 ea7 ?_
  obtain ⟨σ8, eσ8, hf⟩ := ob hf
  refine g_putF dX0_init_22 eσ8 (Or.inl t_338) hin4 hc4 (by decide) hty4 hnm4 (Or.inr ⟨rfl, rfl, t_338⟩) rfl ?_
  refine g_aload_n (j := 0) dX0_init_25 rfl rfl ?_
  refine g_aload_n (j := 1) dX0_init_26 rfl rfl ?_
  obtain ⟨v9, ev9, hf⟩ := ob hf
  refine g_alen dX0_init_27 ev9 ?_
  refine g_aload_n (j := 2) dX0_init_28 rfl rfl ?_
  obtain ⟨v10, ev10, hf⟩ := ob hf
  refine g_alen dX0_init_29 ev10 ?_
  refine g_iadd dX0_init_30 ?_
  obtain ⟨σ11, eσ11, hf⟩ := ob hf
  obtain ⟨a12, ea12, hf⟩ := nm_el hf
  refine g_newa9 dX0_init_31 eσ11 (by decide) rfl (by decide) rfl t_66 ea12 ?_
  obtain ⟨σ13, eσ13, hf⟩ := ob hf
  refine g_putF dX0_init_33 eσ13 (Or.inl t_339) hin4 hc4 (by decide) hty4 hnm4 (Or.inr ⟨rfl, rfl, t_339⟩) rfl ?_
  exact g_vret dX0_init_36 rfl hX2 hX1 hf

theorem okX0_init (M : Mt) (h1 : 1 + 1 ≤ M.2.2.2.2.1) (h2 : 8 + (3 + 11) + 84 ≤ M.2.2.2.2.2.1) : CallOk M MtX0_init yX0_init 2 := ⟨t_332, h1, h2, ⟨by decide, by decide⟩, by decide +kernel, t_13⟩
abbrev MtX6_init : Mt := (cX6_init, 2, "ExactlySaid$Row", none, 1, 84, true)
set_option maxRecDepth 100000 in
set_option maxHeartbeats 4000000 in
theorem wX6_init (l : Launch) {σ σf : St} {x0 : Nat} {x1 : Int32} {r : Unit} (hf : fX6_init σ x0 x1 = some (σf, r)) : Con MtX6_init yX6_init l σ [rv x0, .int x1] σf (none) := by
  refine Con.of (by decide +kernel) rfl (fun _ => rfl) (by simp only [sl_n, sl_r, sl_i, sl_l]; exact Nat.le_of_ble_eq_true rfl) ?_
  rw [show lv_args 0 [rv x0, .int x1] = [(0, rv x0), (1, .int x1)] by simp only [la_n, la_r, la_i, la_l] <;> rfl]
  have hX1 : ((l, σ, σf, .inl (none)) : Xt).2.2.1 = σf := rfl
  have hX2 : ((l, σ, σf, .inl (none)) : Xt).2.2.2 = .inl (none) := rfl
  unfold fX6_init at hf
  refine g_aload_n (j := 0) dX6_init_0 rfl rfl ?_
  obtain ⟨_, h1, hf⟩ := ob hf
  refine g_objInit dX6_init_1 (of_decide_eq_true (ckP_el h1)) t_355 t_42 t_43 (by decide) (by decide) (Nat.le_of_ble_eq_true rfl) ?_
  refine g_aload_n (j := 0) dX6_init_4 rfl rfl ?_
  refine g_iload_n (j := 1) dX6_init_5 rfl rfl ?_
  refine g_iconst (v := 0) dX6_init_6 (by decide) ?_
  refine g_mmax dX6_init_7 t_356 t_357 t_15 t_358 (by decide) (by decide) (Nat.le_of_ble_eq_true rfl) ?_
  obtain ⟨σ2, eσ2, hf⟩ := ob hf
  obtain ⟨a3, ea3, hf⟩ := nm_el hf
  refine g_newq9 dX6_init_10 eσ2 (by decide) rfl t_359 t_93 ea3 ?_
  obtain ⟨σ4, eσ4, hf⟩ := ob hf
  refine g_putF dX6_init_13 eσ4 (Or.inl t_360) hin10 hc10 (by decide) hty10 hnm10 (Or.inr ⟨rfl, rfl, t_360⟩) rfl ?_
  exact g_vret dX6_init_16 rfl hX2 hX1 hf

theorem okX6_init (M : Mt) (h1 : 1 + 1 ≤ M.2.2.2.2.1) (h2 : 8 + (2 + 11) + 84 ≤ M.2.2.2.2.2.1) : CallOk M MtX6_init yX6_init 1 := ⟨t_354, h1, h2, ⟨by decide, by decide⟩, by decide +kernel, t_14⟩
abbrev MtX7_init : Mt := (cX7_init, 2, "ExactlySaid$State", none, 2, 106, true)
set_option maxRecDepth 100000 in
set_option maxHeartbeats 4000000 in
theorem bX7_init_33 {X : Xt} {σf : St} {r : Unit} (hX1 : X.2.2.1 = σf) (hX2 : X.2.2.2 = .inl (none)) : ∀ (n : Nat) (σ : St) (x0 : Nat) (x1 : Int32), fX7_init_33 n σ x0 x1 = some (σf, r) → G MtX7_init X σ 33 [(0, rv x0), (1, .int x1)] [] := by
  intro n
  induction n with
  | zero => intro σ x0 x1 hf; cases hf
  | succ n ih =>
    intro σ x0 x1 hf
    rw [fX7_init_33] at hf
    refine g_iload_n (j := 1) dX7_init_33 rfl rfl ?_
    refine g_aload_n (j := 0) dX7_init_34 rfl rfl ?_
    obtain ⟨v1, ev1, hf⟩ := ob hf
    refine g_getF dX7_init_35 ev1 t_368 hin11 hc11 (by decide) rfl ?_
    obtain ⟨v2, ev2, hf⟩ := ob hf
    refine g_alen dX7_init_38 ev2 ?_
    refine g_icmp_ge (tgt := 62) dX7_init_39 (by decide) (fun c3 => ?_) (fun c3 => ?_)
    · rw [if_pos c3] at hf
      exact g_vret dX7_init_62 rfl hX2 hX1 hf
    · rw [if_neg c3] at hf
      refine g_aload_n (j := 0) dX7_init_42 rfl rfl ?_
      obtain ⟨v4, ev4, hf⟩ := ob hf
      refine g_getF dX7_init_43 ev4 t_368 hin11 hc11 (by decide) rfl ?_
      refine g_iload_n (j := 1) dX7_init_46 rfl rfl ?_
      obtain ⟨σ5, eσ5, hf⟩ := nm_el hf
      obtain ⟨a6, ea6, hf⟩ := nm_el hf
      refine g_new9 dX7_init_47 hc10 hin10 hty10 hdf10 t_349 t_351 t_14 eσ5 ea6 ?_
      refine g_dup dX7_init_50 (rv_cat _) ?_
      refine g_iconst (v := 0) dX7_init_51 (by decide) ?_
      obtain ⟨_, h9, hf⟩ := ob hf
      obtain ⟨σ7, v8, eσ7, hf⟩ := cb_el hf
      refine g_callIN dX7_init_52 (wX6_init _ eσ7) (okX6_init _ (by decide) (by decide)) rfl (by rw [ckK_el h9]; decide) rfl t_352 t_353 rfl (Nat.le_trans (cat_le _) (Nat.le_of_ble_eq_true rfl)) rfl ?_
      obtain ⟨σ10, eσ10, hf⟩ := ob hf
      refine g_aast dX7_init_55 (by decide) rfl hc10 eσ10 ?_
      obtain ⟨v11, ev11, hf⟩ := nm_el hf
      refine g_iinc (L' := [(1, .int v11), (0, rv x0)]) (j := 1) (v := v11) dX7_init_56 rfl (by rw [ev11]; rfl) (Nat.le_of_ble_eq_true rfl) (by simp [rv_cat]) ?_
      refine g_goto (tgt := 33) dX7_init_59 (by decide) ?_
      refine g_sub (L' := [(0, rv x0), (1, .int v11)]) [1, 0] rfl ?_
      exact ih _ _ _ hf

set_option maxRecDepth 100000 in
set_option maxHeartbeats 4000000 in
theorem wX7_init (l : Launch) {σ σf : St} {x0 : Nat} {r : Unit} (hf : fX7_init σ x0 = some (σf, r)) : Con MtX7_init yX7_init l σ [rv x0] σf (none) := by
  refine Con.of (by decide +kernel) rfl (fun _ => rfl) (by simp only [sl_n, sl_r, sl_i, sl_l]; exact Nat.le_of_ble_eq_true rfl) ?_
  rw [show lv_args 0 [rv x0] = [(0, rv x0)] by simp only [la_n, la_r, la_i, la_l] <;> rfl]
  have hX1 : ((l, σ, σf, .inl (none)) : Xt).2.2.1 = σf := rfl
  have hX2 : ((l, σ, σf, .inl (none)) : Xt).2.2.2 = .inl (none) := rfl
  unfold fX7_init at hf
  refine g_aload_n (j := 0) dX7_init_0 rfl rfl ?_
  obtain ⟨_, h1, hf⟩ := ob hf
  refine g_objInit dX7_init_1 (of_decide_eq_true (ckP_el h1)) t_325 t_42 t_43 (by decide) (by decide) (Nat.le_of_ble_eq_true rfl) ?_
  refine g_aload_n (j := 0) dX7_init_4 rfl rfl ?_
  obtain ⟨σ2, eσ2, hf⟩ := nm_el hf
  obtain ⟨a3, ea3, hf⟩ := nm_el hf
  refine g_new9 dX7_init_5 hc4 hin4 hty4 hdf4 t_326 t_327 t_13 eσ2 ea3 ?_
  refine g_dup dX7_init_8 (rv_cat _) ?_
  refine g_iconst (v := 0) dX7_init_9 (by decide) ?_
  obtain ⟨σ4, eσ4, hf⟩ := ob hf
  obtain ⟨a5, ea5, hf⟩ := nm_el hf
  refine g_newq9 dX7_init_10 eσ4 (by decide) rfl t_328 t_329 ea5 ?_
  refine g_iconst (v := 0) dX7_init_13 (by decide) ?_
  obtain ⟨σ6, eσ6, hf⟩ := ob hf
  obtain ⟨a7, ea7, hf⟩ := nm_el hf
  refine g_newq9 dX7_init_14 eσ6 (by decide) rfl t_328 t_329 ea7 ?_
  obtain ⟨_, h10, hf⟩ := ob hf
  obtain ⟨σ8, v9, eσ8, hf⟩ := cb_el hf
  refine g_callIN dX7_init_17 (wX0_init _ eσ8) (okX0_init _ (by decide) (by decide)) rfl (by rw [ckK_el h10]; decide) rfl t_330 t_331 rfl (Nat.le_trans (cat_le _) (Nat.le_of_ble_eq_true rfl)) rfl ?_
  obtain ⟨σ11, eσ11, hf⟩ := ob hf
  refine g_putF dX7_init_20 eσ11 (Or.inl t_366) hin11 hc11 (by decide) hty11 hnm11 (Or.inr ⟨rfl, rfl, t_366⟩) rfl ?_
  refine g_aload_n (j := 0) dX7_init_23 rfl rfl ?_
  refine g_iconst (v := 3) dX7_init_24 (by decide) ?_
  obtain ⟨σ12, eσ12, hf⟩ := ob hf
  obtain ⟨a13, ea13, hf⟩ := nm_el hf
  refine g_newq9 dX7_init_25 eσ12 (by decide) rfl t_349 t_350 ea13 ?_
  obtain ⟨σ14, eσ14, hf⟩ := ob hf
  refine g_putF dX7_init_28 eσ14 (Or.inl t_368) hin11 hc11 (by decide) hty11 hnm11 (Or.inr ⟨rfl, rfl, t_368⟩) rfl ?_
  refine g_iconst (v := 0) dX7_init_31 (by decide) ?_
  refine g_istore_n (i := 1) (L' := [(1, .int 0), (0, rv x0)]) dX7_init_32 rfl (Nat.le_of_ble_eq_true rfl) (by simp [rv_cat]) ?_
  refine g_sub (L' := [(0, rv x0), (1, .int 0)]) [1, 0] rfl ?_
  exact bX7_init_33 hX1 hX2 FU _ _ _ hf

theorem okX7_init (M : Mt) (h1 : 2 + 1 ≤ M.2.2.2.2.1) (h2 : 8 + (2 + 11) + 106 ≤ M.2.2.2.2.2.1) : CallOk M MtX7_init yX7_init 0 := ⟨t_324, h1, h2, ⟨by decide, by decide⟩, by decide +kernel, t_12⟩
abbrev MtX11_init : Mt := (cX11_init, 2, "ExactlySaid", none, 4, 146, true)
set_option maxRecDepth 100000 in
set_option maxHeartbeats 4000000 in
theorem bX11_init_138 {X : Xt} {σf : St} {r : Unit} (hX1 : X.2.2.1 = σf) (hX2 : X.2.2.2 = .inl (none)) : ∀ (n : Nat) (σ : St) (x0 : Nat) (x1 : Int32), fX11_init_138 n σ x0 x1 = some (σf, r) → G MtX11_init X σ 138 [(0, rv x0), (1, .int x1)] [] := by
  intro n
  induction n with
  | zero => intro σ x0 x1 hf; cases hf
  | succ n ih =>
    intro σ x0 x1 hf
    rw [fX11_init_138] at hf
    refine g_iload_n (j := 1) dX11_init_138 rfl rfl ?_
    refine g_aload_n (j := 0) dX11_init_139 rfl rfl ?_
    obtain ⟨v1, ev1, hf⟩ := ob hf
    refine g_getF dX11_init_140 ev1 t_384 hin15 hc15 (by decide) rfl ?_
    obtain ⟨v2, ev2, hf⟩ := ob hf
    refine g_alen dX11_init_143 ev2 ?_
    refine g_icmp_ge (tgt := 163) dX11_init_144 (by decide) (fun c3 => ?_) (fun c3 => ?_)
    · rw [if_pos c3] at hf
      refine g_aload_n (j := 0) dX11_init_163 rfl rfl ?_
      obtain ⟨v4, ev4, hf⟩ := ob hf
      refine g_getF dX11_init_164 ev4 t_388 hin15 hc15 (by decide) rfl ?_
      refine g_iconst (v := 0) dX11_init_167 (by decide) ?_
      obtain ⟨σ5, eσ5, hf⟩ := nm_el hf
      obtain ⟨a6, ea6, hf⟩ := nm_el hf
      refine g_new9 dX11_init_168 hc11 hin11 hty11 hdf11 t_147 t_321 t_12 eσ5 ea6 ?_
      refine g_dup dX11_init_171 (rv_cat _) ?_
      obtain ⟨_, h9, hf⟩ := ob hf
      obtain ⟨σ7, v8, eσ7, hf⟩ := cb_el hf
      refine g_callIN dX11_init_172 (wX7_init _ eσ7) (okX7_init _ (by decide) (by decide)) rfl (by rw [ckK_el h9]; decide) rfl t_322 t_323 rfl (Nat.le_trans (cat_le _) (Nat.le_of_ble_eq_true rfl)) rfl ?_
      obtain ⟨σ10, eσ10, hf⟩ := ob hf
      refine g_aast dX11_init_175 (by decide) rfl hc11 eσ10 ?_
      exact g_vret dX11_init_176 rfl hX2 hX1 hf
    · rw [if_neg c3] at hf
      refine g_aload_n (j := 0) dX11_init_147 rfl rfl ?_
      obtain ⟨v11, ev11, hf⟩ := ob hf
      refine g_getF dX11_init_148 ev11 t_384 hin15 hc15 (by decide) rfl ?_
      refine g_iload_n (j := 1) dX11_init_151 rfl rfl ?_
      refine g_aload_n (j := 0) dX11_init_152 rfl rfl ?_
      obtain ⟨v12, ev12, hf⟩ := ob hf
      refine g_getF dX11_init_153 ev12 t_383 hin15 hc15 (by decide) rfl ?_
      obtain ⟨σ13, eσ13, hf⟩ := ob hf
      refine g_aast dX11_init_156 (by decide) rfl hc5 eσ13 ?_
      obtain ⟨v14, ev14, hf⟩ := nm_el hf
      refine g_iinc (L' := [(1, .int v14), (0, rv x0)]) (j := 1) (v := v14) dX11_init_157 rfl (by rw [ev14]; rfl) (Nat.le_of_ble_eq_true rfl) (by simp [rv_cat]) ?_
      refine g_goto (tgt := 138) dX11_init_160 (by decide) ?_
      refine g_sub (L' := [(0, rv x0), (1, .int v14)]) [1, 0] rfl ?_
      exact ih _ _ _ hf

set_option maxRecDepth 100000 in
set_option maxHeartbeats 4000000 in
theorem wX11_init (l : Launch) {σ σf : St} {x0 : Nat} {r : Unit} (hf : fX11_init σ x0 = some (σf, r)) : Con MtX11_init yX11_init l σ [rv x0] σf (none) := by
  refine Con.of (by decide +kernel) rfl (fun _ => rfl) (by simp only [sl_n, sl_r, sl_i, sl_l]; exact Nat.le_of_ble_eq_true rfl) ?_
  rw [show lv_args 0 [rv x0] = [(0, rv x0)] by simp only [la_n, la_r, la_i, la_l] <;> rfl]
  have hX1 : ((l, σ, σf, .inl (none)) : Xt).2.2.1 = σf := rfl
  have hX2 : ((l, σ, σf, .inl (none)) : Xt).2.2.2 = .inl (none) := rfl
  unfold fX11_init at hf
  refine g_aload_n (j := 0) dX11_init_0 rfl rfl ?_
  obtain ⟨_, h1, hf⟩ := ob hf
  refine g_objInit dX11_init_1 (of_decide_eq_true (ckP_el h1)) t_41 t_42 t_43 (by decide) (by decide) (Nat.le_of_ble_eq_true rfl) ?_
  refine g_aload_n (j := 0) dX11_init_4 rfl rfl ?_
  refine g_sipush (v := 200) dX11_init_5 (by decide) ?_
  obtain ⟨σ2, eσ2, hf⟩ := ob hf
  obtain ⟨a3, ea3, hf⟩ := nm_el hf
  refine g_newa9 dX11_init_8 eσ2 (by decide) rfl (by decide) rfl t_66 ea3 ?_
  obtain ⟨σ4, eσ4, hf⟩ := ob hf
  refine g_putF dX11_init_10 eσ4 (Or.inl t_375) hin15 hc15 (by decide) hty15 hnm15 (Or.inr ⟨rfl, rfl, t_375⟩) rfl ?_
  refine g_aload_n (j := 0) dX11_init_13 rfl rfl ?_
  refine g_iconst (v := (-1)) dX11_init_14 (by decide) ?_
  obtain ⟨σ5, eσ5, hf⟩ := ob hf
  refine g_putI dX11_init_15 eσ5 (Or.inl t_377) hin15 hc15 (by decide) hty15 hnm15 (Or.inl rfl) rfl rfl rfl ?_
  refine g_aload_n (j := 0) dX11_init_18 rfl rfl ?_
  refine g_iconst (v := (-1)) dX11_init_19 (by decide) ?_
  obtain ⟨σ6, eσ6, hf⟩ := ob hf
  refine g_putI dX11_init_20 eσ6 (Or.inl t_378) hin15 hc15 (by decide) hty15 hnm15 (Or.inl rfl) rfl rfl rfl ?_
  refine g_aload_n (j := 0) dX11_init_23 rfl rfl ?_
  refine g_iconst (v := (-1)) dX11_init_24 (by decide) ?_
  obtain ⟨σ7, eσ7, hf⟩ := ob hf
  refine g_putI dX11_init_25 eσ7 (Or.inl t_379) hin15 hc15 (by decide) hty15 hnm15 (Or.inl rfl) rfl rfl rfl ?_
  refine g_aload_n (j := 0) dX11_init_28 rfl rfl ?_
  refine g_iconst (v := (-1)) dX11_init_29 (by decide) ?_
  obtain ⟨σ8, eσ8, hf⟩ := ob hf
  refine g_putI dX11_init_30 eσ8 (Or.inl t_380) hin15 hc15 (by decide) hty15 hnm15 (Or.inl rfl) rfl rfl rfl ?_
  refine g_aload_n (j := 0) dX11_init_33 rfl rfl ?_
  refine g_bipush (v := 30) dX11_init_34 (by decide) ?_
  obtain ⟨σ9, eσ9, hf⟩ := ob hf
  obtain ⟨a10, ea10, hf⟩ := nm_el hf
  refine g_newa9 dX11_init_36 eσ9 (by decide) rfl (by decide) rfl t_66 ea10 ?_
  obtain ⟨σ11, eσ11, hf⟩ := ob hf
  refine g_putF dX11_init_38 eσ11 (Or.inl t_381) hin15 hc15 (by decide) hty15 hnm15 (Or.inr ⟨rfl, rfl, t_381⟩) rfl ?_
  refine g_aload_n (j := 0) dX11_init_41 rfl rfl ?_
  obtain ⟨σ12, eσ12, hf⟩ := nm_el hf
  obtain ⟨a13, ea13, hf⟩ := nm_el hf
  refine g_new9 dX11_init_42 hc5 hin5 hty5 hdf5 t_44 t_45 t_2 eσ12 ea13 ?_
  refine g_dup dX11_init_45 (rv_cat _) ?_
  obtain ⟨_, h16, hf⟩ := ob hf
  obtain ⟨σ14, v15, eσ14, hf⟩ := cb_el hf
  refine g_callIN dX11_init_46 (wX1_init _ eσ14) (okX1_init _ (by decide) (by decide)) rfl (by rw [ckK_el h16]; decide) rfl t_46 t_47 rfl (Nat.le_trans (cat_le _) (Nat.le_of_ble_eq_true rfl)) rfl ?_
  obtain ⟨σ17, eσ17, hf⟩ := ob hf
  refine g_putF dX11_init_49 eσ17 (Or.inl t_383) hin15 hc15 (by decide) hty15 hnm15 (Or.inl rfl) rfl ?_
  refine g_aload_n (j := 0) dX11_init_52 rfl rfl ?_
  refine g_bipush (v := 10) dX11_init_53 (by decide) ?_
  obtain ⟨σ18, eσ18, hf⟩ := ob hf
  obtain ⟨a19, ea19, hf⟩ := nm_el hf
  refine g_newq9 dX11_init_55 eσ18 (by decide) rfl t_44 t_93 ea19 ?_
  obtain ⟨σ20, eσ20, hf⟩ := ob hf
  refine g_putF dX11_init_58 eσ20 (Or.inl t_384) hin15 hc15 (by decide) hty15 hnm15 (Or.inr ⟨rfl, rfl, t_384⟩) rfl ?_
  refine g_aload_n (j := 0) dX11_init_61 rfl rfl ?_
  obtain ⟨σ21, eσ21, hf⟩ := nm_el hf
  obtain ⟨a22, ea22, hf⟩ := nm_el hf
  refine g_new9 dX11_init_62 hc1 hin1 hty1 hdf1 t_94 t_95 t_5 eσ21 ea22 ?_
  refine g_dup dX11_init_65 (rv_cat _) ?_
  obtain ⟨_, h25, hf⟩ := ob hf
  obtain ⟨σ23, v24, eσ23, hf⟩ := cb_el hf
  refine g_callI dX11_init_66 (wJ4_init_da8c8 _ eσ23) (okJ4_init_da8c8 _ (by decide) (by decide)) rfl (by rw [ckK_el h25]; decide) rfl t_96 t_97 rfl (Nat.le_trans (cat_le _) (Nat.le_of_ble_eq_true rfl)) rfl ?_
  obtain ⟨σ26, eσ26, hf⟩ := ob hf
  refine g_putF dX11_init_69 eσ26 (Or.inl t_385) hin15 hc15 (by decide) hty15 hnm15 (Or.inr ⟨rfl, rfl, t_385⟩) rfl ?_
  refine g_aload_n (j := 0) dX11_init_72 rfl rfl ?_
  obtain ⟨σ27, eσ27, hf⟩ := nm_el hf
  obtain ⟨a28, ea28, hf⟩ := nm_el hf
  refine g_new9 dX11_init_73 hc12 hin12 hty12 hdf12 t_127 t_128 t_8 eσ27 ea28 ?_
  refine g_dup dX11_init_76 (rv_cat _) ?_
  obtain ⟨_, h31, hf⟩ := ob hf
  obtain ⟨σ29, v30, eσ29, hf⟩ := cb_el hf
  refine g_callIN dX11_init_77 (wX8_init _ eσ29) (okX8_init _ (by decide) (by decide)) rfl (by rw [ckK_el h31]; decide) rfl t_129 t_130 rfl (Nat.le_trans (cat_le _) (Nat.le_of_ble_eq_true rfl)) rfl ?_
  obtain ⟨σ32, eσ32, hf⟩ := ob hf
  refine g_putF dX11_init_80 eσ32 (Or.inl t_386) hin15 hc15 (by decide) hty15 hnm15 (Or.inl rfl) rfl ?_
  refine g_aload_n (j := 0) dX11_init_83 rfl rfl ?_
  obtain ⟨σ33, eσ33, hf⟩ := nm_el hf
  obtain ⟨a34, ea34, hf⟩ := nm_el hf
  refine g_new9 dX11_init_84 hc12 hin12 hty12 hdf12 t_127 t_128 t_8 eσ33 ea34 ?_
  refine g_dup dX11_init_87 (rv_cat _) ?_
  obtain ⟨_, h37, hf⟩ := ob hf
  obtain ⟨σ35, v36, eσ35, hf⟩ := cb_el hf
  refine g_callIN dX11_init_88 (wX8_init _ eσ35) (okX8_init _ (by decide) (by decide)) rfl (by rw [ckK_el h37]; decide) rfl t_129 t_130 rfl (Nat.le_trans (cat_le _) (Nat.le_of_ble_eq_true rfl)) rfl ?_
  obtain ⟨σ38, eσ38, hf⟩ := ob hf
  refine g_putF dX11_init_91 eσ38 (Or.inl t_387) hin15 hc15 (by decide) hty15 hnm15 (Or.inl rfl) rfl ?_
  refine g_aload_n (j := 0) dX11_init_94 rfl rfl ?_
  refine g_bipush (v := 21) dX11_init_95 (by decide) ?_
  obtain ⟨σ39, eσ39, hf⟩ := ob hf
  obtain ⟨a40, ea40, hf⟩ := nm_el hf
  refine g_newq9 dX11_init_97 eσ39 (by decide) rfl t_147 t_148 ea40 ?_
  obtain ⟨σ41, eσ41, hf⟩ := ob hf
  refine g_putF dX11_init_100 eσ41 (Or.inl t_388) hin15 hc15 (by decide) hty15 hnm15 (Or.inr ⟨rfl, rfl, t_388⟩) rfl ?_
  refine g_aload_n (j := 0) dX11_init_103 rfl rfl ?_
  obtain ⟨σ42, eσ42, hf⟩ := nm_el hf
  obtain ⟨a43, ea43, hf⟩ := nm_el hf
  refine g_new9 dX11_init_104 hc9 hin9 hty9 hdf9 t_149 t_150 t_9 eσ42 ea43 ?_
  refine g_dup dX11_init_107 (rv_cat _) ?_
  obtain ⟨_, h46, hf⟩ := ob hf
  obtain ⟨σ44, v45, eσ44, hf⟩ := cb_el hf
  refine g_callIN dX11_init_108 (wX5_init _ eσ44) (okX5_init _ (by decide) (by decide)) rfl (by rw [ckK_el h46]; decide) rfl t_151 t_152 rfl (Nat.le_trans (cat_le _) (Nat.le_of_ble_eq_true rfl)) rfl ?_
  obtain ⟨σ47, eσ47, hf⟩ := ob hf
  refine g_putF dX11_init_111 eσ47 (Or.inl t_391) hin15 hc15 (by decide) hty15 hnm15 (Or.inr ⟨rfl, rfl, t_391⟩) rfl ?_
  refine g_aload_n (j := 0) dX11_init_114 rfl rfl ?_
  obtain ⟨σ48, eσ48, hf⟩ := nm_el hf
  obtain ⟨a49, ea49, hf⟩ := nm_el hf
  refine g_new9 dX11_init_115 hc8 hin8 hty8 hdf8 t_212 t_213 t_10 eσ48 ea49 ?_
  refine g_dup dX11_init_118 (rv_cat _) ?_
  obtain ⟨_, h52, hf⟩ := ob hf
  obtain ⟨σ50, v51, eσ50, hf⟩ := cb_el hf
  refine g_callIN dX11_init_119 (wX4_init _ eσ50) (okX4_init _ (by decide) (by decide)) rfl (by rw [ckK_el h52]; decide) rfl t_214 t_215 rfl (Nat.le_trans (cat_le _) (Nat.le_of_ble_eq_true rfl)) rfl ?_
  obtain ⟨σ53, eσ53, hf⟩ := ob hf
  refine g_putF dX11_init_122 eσ53 (Or.inl t_392) hin15 hc15 (by decide) hty15 hnm15 (Or.inr ⟨rfl, rfl, t_392⟩) rfl ?_
  refine g_aload_n (j := 0) dX11_init_125 rfl rfl ?_
  obtain ⟨σ54, eσ54, hf⟩ := nm_el hf
  obtain ⟨a55, ea55, hf⟩ := nm_el hf
  refine g_new9 dX11_init_126 hc6 hin6 hty6 hdf6 t_281 t_282 t_11 eσ54 ea55 ?_
  refine g_dup dX11_init_129 (rv_cat _) ?_
  obtain ⟨_, h58, hf⟩ := ob hf
  obtain ⟨σ56, v57, eσ56, hf⟩ := cb_el hf
  refine g_callIN dX11_init_130 (wX2_init _ eσ56) (okX2_init _ (by decide) (by decide)) rfl (by rw [ckK_el h58]; decide) rfl t_283 t_284 rfl (Nat.le_trans (cat_le _) (Nat.le_of_ble_eq_true rfl)) rfl ?_
  obtain ⟨σ59, eσ59, hf⟩ := ob hf
  refine g_putF dX11_init_133 eσ59 (Or.inl t_393) hin15 hc15 (by decide) hty15 hnm15 (Or.inr ⟨rfl, rfl, t_393⟩) rfl ?_
  refine g_iconst (v := 0) dX11_init_136 (by decide) ?_
  refine g_istore_n (i := 1) (L' := [(1, .int 0), (0, rv x0)]) dX11_init_137 rfl (Nat.le_of_ble_eq_true rfl) (by simp [rv_cat]) ?_
  refine g_sub (L' := [(0, rv x0), (1, .int 0)]) [1, 0] rfl ?_
  exact bX11_init_138 hX1 hX2 FU _ _ _ hf

theorem okX11_init (M : Mt) (h1 : 4 + 1 ≤ M.2.2.2.2.1) (h2 : 8 + (2 + 11) + 146 ≤ M.2.2.2.2.2.1) : CallOk M MtX11_init yX11_init 0 := ⟨t_40, h1, h2, ⟨by decide, by decide⟩, by decide +kernel, t_1⟩
abbrev MtX11_bytesIn : Mt := (cX11_bytesIn, 3, "ExactlySaid", (Option.some Jvm.ClassFile.FieldType.int), 1, 84, false)
set_option maxRecDepth 100000 in
set_option maxHeartbeats 4000000 in
theorem bX11_bytesIn_22 {X : Xt} {σf : St} {r : Int32} (hX1 : X.2.2.1 = σf) (hX2 : X.2.2.2 = .inl (some (.int r))) {k5 : St → Int32 → Int32 → Int32 → Option (St × Int32)} (hk5 : ∀ (σ : St) (x0 : Int32) (x1 : Int32) (x2 : Int32), k5 σ x0 x1 x2 = some (σf, r) → G MtX11_bytesIn X σ 5 [(0, .int x0), (1, .int x1), (2, .int x2)] []) {σ : St} {x0 : Int32} {x1 : Int32} {x2 : Int32} (hf : fX11_bytesIn_22 k5 σ x0 x1 x2 = some (σf, r)) : G MtX11_bytesIn X σ 22 [(0, .int x0), (1, .int x1), (2, .int x2)] [] := by
  unfold fX11_bytesIn_22 at hf
  obtain ⟨v1, ev1, hf⟩ := nm_el hf
  refine g_iinc (L' := [(2, .int v1), (0, .int x0), (1, .int x1)]) (j := 2) (v := v1) dX11_bytesIn_22 rfl (by rw [ev1]; rfl) (Nat.le_of_ble_eq_true rfl) rfl ?_
  refine g_goto (tgt := 5) dX11_bytesIn_25 (by decide) ?_
  refine g_sub (L' := [(0, .int x0), (1, .int x1), (2, .int v1)]) [1, 2, 0] rfl ?_
  exact hk5 _ _ _ _ hf

set_option maxRecDepth 100000 in
set_option maxHeartbeats 4000000 in
theorem bX11_bytesIn_5 {X : Xt} {σf : St} {r : Int32} (hX1 : X.2.2.1 = σf) (hX2 : X.2.2.2 = .inl (some (.int r))) : ∀ (n : Nat) (σ : St) (x0 : Int32) (x1 : Int32) (x2 : Int32), fX11_bytesIn_5 n σ x0 x1 x2 = some (σf, r) → G MtX11_bytesIn X σ 5 [(0, .int x0), (1, .int x1), (2, .int x2)] [] := by
  intro n
  induction n with
  | zero => intro σ x0 x1 x2 hf; cases hf
  | succ n ih =>
    intro σ x0 x1 x2 hf
    rw [fX11_bytesIn_5] at hf
    refine g_iload_n (j := 2) dX11_bytesIn_5 rfl rfl ?_
    refine g_if_lt (tgt := 28) dX11_bytesIn_6 (by decide) (fun c1 => ?_) (fun c1 => ?_)
    · rw [if_pos c1] at hf
      refine g_iload_n (j := 1) dX11_bytesIn_28 rfl rfl ?_
      exact g_iret dX11_bytesIn_29 rfl rfl hX2 hX1 hf
    · rw [if_neg c1] at hf
      refine g_iload_n (j := 0) dX11_bytesIn_9 rfl rfl ?_
      refine g_iload_n (j := 2) dX11_bytesIn_10 rfl rfl ?_
      refine g_iushr dX11_bytesIn_11 rfl ?_
      refine g_sipush (v := 255) dX11_bytesIn_12 (by decide) ?_
      refine g_iand dX11_bytesIn_15 ?_
      refine g_if_eq (tgt := 22) dX11_bytesIn_16 (by decide) (fun c2 => ?_) (fun c2 => ?_)
      · rw [if_pos c2] at hf
        exact bX11_bytesIn_22 hX1 hX2 (fun σ x0 x1 x2 hf => ih σ x0 x1 x2 hf) hf
      · rw [if_neg c2] at hf
        obtain ⟨v3, ev3, hf⟩ := nm_el hf
        refine g_iinc (L' := [(1, .int v3), (0, .int x0), (2, .int x2)]) (j := 1) (v := v3) dX11_bytesIn_19 rfl (by rw [ev3]; rfl) (Nat.le_of_ble_eq_true rfl) rfl ?_
        refine g_sub (L' := [(0, .int x0), (1, .int v3), (2, .int x2)]) [1, 0, 2] rfl ?_
        exact bX11_bytesIn_22 hX1 hX2 (fun σ x0 x1 x2 hf => ih σ x0 x1 x2 hf) hf

set_option maxRecDepth 100000 in
set_option maxHeartbeats 4000000 in
theorem wX11_bytesIn (l : Launch) {σ σf : St} {x0 : Int32} {r : Int32} (hf : fX11_bytesIn σ x0 = some (σf, r)) : Con MtX11_bytesIn yX11_bytesIn l σ [.int x0] σf (some (.int r)) := by
  refine Con.of (by decide +kernel) rfl (fun h => absurd (show false = true from h) (by decide)) (by simp only [sl_n, sl_r, sl_i, sl_l]; exact Nat.le_of_ble_eq_true rfl) ?_
  rw [show lv_args 0 [.int x0] = [(0, .int x0)] by simp only [la_n, la_r, la_i, la_l] <;> rfl]
  have hX1 : ((l, σ, σf, .inl (some (.int r))) : Xt).2.2.1 = σf := rfl
  have hX2 : ((l, σ, σf, .inl (some (.int r))) : Xt).2.2.2 = .inl (some (.int r)) := rfl
  unfold fX11_bytesIn at hf
  refine g_iconst (v := 0) dX11_bytesIn_0 (by decide) ?_
  refine g_istore_n (i := 1) (L' := [(1, .int 0), (0, .int x0)]) dX11_bytesIn_1 rfl (Nat.le_of_ble_eq_true rfl) rfl ?_
  refine g_bipush (v := 24) dX11_bytesIn_2 (by decide) ?_
  refine g_istore_n (i := 2) (L' := [(2, .int 24), (1, .int 0), (0, .int x0)]) dX11_bytesIn_4 rfl (Nat.le_of_ble_eq_true rfl) rfl ?_
  refine g_sub (L' := [(0, .int x0), (1, .int 0), (2, .int 24)]) [2, 1, 0] rfl ?_
  exact bX11_bytesIn_5 hX1 hX2 FU _ _ _ _ hf

theorem okX11_bytesIn (M : Mt) (h1 : 1 + 1 ≤ M.2.2.2.2.1) (h2 : 8 + (3 + 11) + 84 ≤ M.2.2.2.2.2.1) : CallOk M MtX11_bytesIn yX11_bytesIn 1 := ⟨t_1263, h1, h2, ⟨by decide, by decide⟩, by decide +kernel, t_1⟩
abbrev MtX11_lay : Mt := (cX11_lay, 4, "ExactlySaid", none, 1, 84, false)
set_option maxRecDepth 100000 in
set_option maxHeartbeats 4000000 in
theorem bX11_lay_51 {X : Xt} {σf : St} {r : Unit} (hX1 : X.2.2.1 = σf) (hX2 : X.2.2.2 = .inl (none)) {k3 : St → Nat → Int32 → Int32 → Option (St × Unit)} (hk3 : ∀ (σ : St) (x0 : Nat) (x1 : Int32) (x2 : Int32), k3 σ x0 x1 x2 = some (σf, r) → G MtX11_lay X σ 3 [(0, rv x0), (1, .int x1), (2, .int x2)] []) {σ : St} {x0 : Nat} {x1 : Int32} {x2 : Int32} (hf : fX11_lay_51 k3 σ x0 x1 x2 = some (σf, r)) : G MtX11_lay X σ 51 [(0, rv x0), (1, .int x1), (2, .int x2)] [] := by
  unfold fX11_lay_51 at hf
  obtain ⟨v1, ev1, hf⟩ := nm_el hf
  refine g_iinc (L' := [(2, .int v1), (0, rv x0), (1, .int x1)]) (j := 2) (v := v1) dX11_lay_51 rfl (by rw [ev1]; rfl) (Nat.le_of_ble_eq_true rfl) rfl ?_
  refine g_goto (tgt := 3) dX11_lay_54 (by decide) ?_
  refine g_sub (L' := [(0, rv x0), (1, .int x1), (2, .int v1)]) [1, 2, 0] rfl ?_
  exact hk3 _ _ _ _ hf

set_option maxRecDepth 100000 in
set_option maxHeartbeats 4000000 in
theorem bX11_lay_3 {X : Xt} {σf : St} {r : Unit} (hX1 : X.2.2.1 = σf) (hX2 : X.2.2.2 = .inl (none)) : ∀ (n : Nat) (σ : St) (x0 : Nat) (x1 : Int32) (x2 : Int32), fX11_lay_3 n σ x0 x1 x2 = some (σf, r) → G MtX11_lay X σ 3 [(0, rv x0), (1, .int x1), (2, .int x2)] [] := by
  intro n
  induction n with
  | zero => intro σ x0 x1 x2 hf; cases hf
  | succ n ih =>
    intro σ x0 x1 x2 hf
    rw [fX11_lay_3] at hf
    refine g_iload_n (j := 2) dX11_lay_3 rfl rfl ?_
    refine g_if_lt (tgt := 57) dX11_lay_4 (by decide) (fun c1 => ?_) (fun c1 => ?_)
    · rw [if_pos c1] at hf
      exact g_vret dX11_lay_57 rfl hX2 hX1 hf
    · rw [if_neg c1] at hf
      refine g_iload_n (j := 1) dX11_lay_7 rfl rfl ?_
      refine g_iload_n (j := 2) dX11_lay_8 rfl rfl ?_
      refine g_iushr dX11_lay_9 rfl ?_
      refine g_sipush (v := 255) dX11_lay_10 (by decide) ?_
      refine g_iand dX11_lay_13 ?_
      obtain ⟨v2, ev2, hf⟩ := nm_el hf
      refine g_topI ev2 ?_
      refine g_istore_n (i := 3) (L' := [(3, .int v2), (0, rv x0), (1, .int x1), (2, .int x2)]) dX11_lay_14 rfl (Nat.le_of_ble_eq_true rfl) rfl ?_
      refine g_iload_n (j := 0) dX11_lay_15 rfl rfl ?_
      refine g_if_eq (tgt := 51) dX11_lay_16 (by decide) (fun c3 => ?_) (fun c3 => ?_)
      · rw [if_pos c3] at hf
        refine g_sub (L' := [(0, rv x0), (1, .int x1), (2, .int x2)]) [1, 2, 3] rfl ?_
        exact bX11_lay_51 hX1 hX2 (fun σ x0 x1 x2 hf => ih σ x0 x1 x2 hf) hf
      · rw [if_neg c3] at hf
        refine g_aload_n (j := 1) dX11_lay_19 rfl rfl ?_
        obtain ⟨v4, ev4, hf⟩ := ob hf
        refine g_getI dX11_lay_20 ev4 t_376 hin15 hc15 (by decide) rfl ?_
        refine g_aload_n (j := 1) dX11_lay_23 rfl rfl ?_
        obtain ⟨v5, ev5, hf⟩ := ob hf
        refine g_getF dX11_lay_24 ev5 t_375 hin15 hc15 (by decide) rfl ?_
        obtain ⟨v6, ev6, hf⟩ := ob hf
        refine g_alen dX11_lay_27 ev6 ?_
        refine g_icmp_ge (tgt := 51) dX11_lay_28 (by decide) (fun c7 => ?_) (fun c7 => ?_)
        · rw [if_pos c7] at hf
          refine g_sub (L' := [(0, rv x0), (1, .int x1), (2, .int x2)]) [1, 2, 3] rfl ?_
          exact bX11_lay_51 hX1 hX2 (fun σ x0 x1 x2 hf => ih σ x0 x1 x2 hf) hf
        · rw [if_neg c7] at hf
          refine g_aload_n (j := 1) dX11_lay_31 rfl rfl ?_
          obtain ⟨v8, ev8, hf⟩ := ob hf
          refine g_getF dX11_lay_32 ev8 t_375 hin15 hc15 (by decide) rfl ?_
          refine g_aload_n (j := 1) dX11_lay_35 rfl rfl ?_
          obtain ⟨v9, ev9, hf⟩ := ob hf
          refine g_getI dX11_lay_36 ev9 t_376 hin15 hc15 (by decide) rfl ?_
          refine g_iload_n (j := 0) dX11_lay_39 rfl rfl ?_
          obtain ⟨σ10, eσ10, hf⟩ := ob hf
          refine g_iast dX11_lay_40 eσ10 ?_
          refine g_aload_n (j := 1) dX11_lay_41 rfl rfl ?_
          refine g_dup dX11_lay_42 (rv_cat _) ?_
          obtain ⟨v11, ev11, hf⟩ := ob hf
          refine g_getI dX11_lay_43 ev11 t_376 hin15 hc15 (by decide) rfl ?_
          refine g_iconst (v := 1) dX11_lay_46 (by decide) ?_
          refine g_iadd dX11_lay_47 ?_
          obtain ⟨σ12, eσ12, hf⟩ := ob hf
          refine g_putI dX11_lay_48 eσ12 (Or.inl t_376) hin15 hc15 (by decide) hty15 hnm15 (Or.inl rfl) rfl rfl rfl ?_
          refine g_sub (L' := [(0, rv x0), (1, .int x1), (2, .int x2)]) [1, 2, 3] rfl ?_
          exact bX11_lay_51 hX1 hX2 (fun σ x0 x1 x2 hf => ih σ x0 x1 x2 hf) hf

set_option maxRecDepth 100000 in
set_option maxHeartbeats 4000000 in
theorem wX11_lay (l : Launch) {σ σf : St} {x0 : Nat} {x1 : Int32} {r : Unit} (hf : fX11_lay σ x0 x1 = some (σf, r)) : Con MtX11_lay yX11_lay l σ [rv x0, .int x1] σf (none) := by
  refine Con.of (by decide +kernel) rfl (fun h => absurd (show false = true from h) (by decide)) (by simp only [sl_n, sl_r, sl_i, sl_l]; exact Nat.le_of_ble_eq_true rfl) ?_
  rw [show lv_args 0 [rv x0, .int x1] = [(0, rv x0), (1, .int x1)] by simp only [la_n, la_r, la_i, la_l] <;> rfl]
  have hX1 : ((l, σ, σf, .inl (none)) : Xt).2.2.1 = σf := rfl
  have hX2 : ((l, σ, σf, .inl (none)) : Xt).2.2.2 = .inl (none) := rfl
  unfold fX11_lay at hf
  refine g_bipush (v := 24) dX11_lay_0 (by decide) ?_
  refine g_istore_n (i := 2) (L' := [(2, .int 24), (0, rv x0), (1, .int x1)]) dX11_lay_2 rfl (Nat.le_of_ble_eq_true rfl) rfl ?_
  refine g_sub (L' := [(0, rv x0), (1, .int x1), (2, .int 24)]) [1, 2, 0] rfl ?_
  exact bX11_lay_3 hX1 hX2 FU _ _ _ _ hf

theorem okX11_lay (M : Mt) (h1 : 1 + 1 ≤ M.2.2.2.2.1) (h2 : 8 + (4 + 11) + 84 ≤ M.2.2.2.2.2.1) : CallOk M MtX11_lay yX11_lay 1 := ⟨t_1288, h1, h2, ⟨by decide, by decide⟩, by decide +kernel, t_1⟩
abbrev MtX11_append : Mt := (cX11_append, 6, "ExactlySaid", (Option.some Jvm.ClassFile.FieldType.int), 8, 160, false)
set_option maxRecDepth 100000 in
set_option maxHeartbeats 4000000 in
theorem wX11_append (l : Launch) (hst : l.stackTraces = false) {σ σf : St} {x0 : Nat} {x1 : Int32} {x2 : Int32} {x3 : Int32} {x4 : Int32} {x5 : Int32} {r : (String ⊕ Int32)} (hf : fX11_append σ x0 x1 x2 x3 x4 x5 = some (σf, r)) : ConT MtX11_append yX11_append l σ [rv x0, .int x1, .int x2, .int x3, .int x4, .int x5] σf (ocI r) := by
  refine ConT.of hst (by decide +kernel) rfl (fun h => absurd (show false = true from h) (by decide)) (by simp only [sl_n, sl_r, sl_i, sl_l]; exact Nat.le_of_ble_eq_true rfl) ?_
  rw [show lv_args 0 [rv x0, .int x1, .int x2, .int x3, .int x4, .int x5] = [(0, rv x0), (1, .int x1), (2, .int x2), (3, .int x3), (4, .int x4), (5, .int x5)] by simp only [la_n, la_r, la_i, la_l] <;> rfl]
  have hX1 : ((l, σ, σf, xo (ocI r)) : Xt).2.2.1 = σf := rfl
  have hX2 : ((l, σ, σf, xo (ocI r)) : Xt).2.2.2 = xo (ocI r) := rfl
  generalize ((l, σ, σf, xo (ocI r)) : Xt) = X at hX1 hX2 ⊢
  unfold fX11_append at hf
  refine g_aload_n (j := 0) dX11_append_0 rfl rfl ?_
  obtain ⟨v1, ev1, hf⟩ := ob hf
  refine g_getI dX11_append_1 ev1 t_376 hin15 hc15 (by decide) rfl ?_
  refine g_iload_n (j := 1) dX11_append_4 rfl rfl ?_
  obtain ⟨σ2, v3, eσ2, hf⟩ := cb_el hf
  refine g_callS_i dX11_append_5 (wX11_bytesIn _ eσ2) (okX11_bytesIn _ (by decide) (by decide)) t_1261 t_1262 rfl (Nat.le_trans (cat_le _) (Nat.le_of_ble_eq_true rfl)) rfl ?_
  refine g_iadd dX11_append_8 ?_
  refine g_iload_n (j := 2) dX11_append_9 rfl rfl ?_
  obtain ⟨σ4, v5, eσ4, hf⟩ := cb_el hf
  refine g_callS_i dX11_append_10 (wX11_bytesIn _ eσ4) (okX11_bytesIn _ (by decide) (by decide)) t_1261 t_1262 rfl (Nat.le_trans (cat_le _) (Nat.le_of_ble_eq_true rfl)) rfl ?_
  refine g_iadd dX11_append_13 ?_
  refine g_iload_n (j := 3) dX11_append_14 rfl rfl ?_
  obtain ⟨σ6, v7, eσ6, hf⟩ := cb_el hf
  refine g_callS_i dX11_append_15 (wX11_bytesIn _ eσ6) (okX11_bytesIn _ (by decide) (by decide)) t_1261 t_1262 rfl (Nat.le_trans (cat_le _) (Nat.le_of_ble_eq_true rfl)) rfl ?_
  refine g_iadd dX11_append_18 ?_
  refine g_iload (j := 4) dX11_append_19 rfl ?_
  obtain ⟨σ8, v9, eσ8, hf⟩ := cb_el hf
  refine g_callS_i dX11_append_21 (wX11_bytesIn _ eσ8) (okX11_bytesIn _ (by decide) (by decide)) t_1261 t_1262 rfl (Nat.le_trans (cat_le _) (Nat.le_of_ble_eq_true rfl)) rfl ?_
  refine g_iadd dX11_append_24 ?_
  refine g_iload (j := 5) dX11_append_25 rfl ?_
  obtain ⟨σ10, v11, eσ10, hf⟩ := cb_el hf
  refine g_callS_i dX11_append_27 (wX11_bytesIn _ eσ10) (okX11_bytesIn _ (by decide) (by decide)) t_1261 t_1262 rfl (Nat.le_trans (cat_le _) (Nat.le_of_ble_eq_true rfl)) rfl ?_
  refine g_iadd dX11_append_30 ?_
  refine g_sipush (v := 200) dX11_append_31 (by decide) ?_
  refine g_icmp_le (tgt := 45) dX11_append_34 (by decide) (fun c12 => ?_) (fun c12 => ?_)
  · rw [if_pos c12] at hf
    refine g_aload_n (j := 0) dX11_append_45 rfl rfl ?_
    refine g_iload_n (j := 1) dX11_append_46 rfl rfl ?_
    obtain ⟨_, h15, hf⟩ := ob hf
    obtain ⟨σ13, v14, eσ13, hf⟩ := cb_el hf
    refine g_callV_v dX11_append_47 (wX11_lay _ eσ13) (okX11_lay _ (by decide) (by decide)) (ckK_el h15) hc15 t_1285 t_1287 s_X11_lay rfl (Nat.le_trans (cat_le _) (Nat.le_of_ble_eq_true rfl)) rfl ?_
    refine g_aload_n (j := 0) dX11_append_50 rfl rfl ?_
    refine g_iload_n (j := 2) dX11_append_51 rfl rfl ?_
    obtain ⟨_, h18, hf⟩ := ob hf
    obtain ⟨σ16, v17, eσ16, hf⟩ := cb_el hf
    refine g_callV_v dX11_append_52 (wX11_lay _ eσ16) (okX11_lay _ (by decide) (by decide)) (ckK_el h18) hc15 t_1285 t_1287 s_X11_lay rfl (Nat.le_trans (cat_le _) (Nat.le_of_ble_eq_true rfl)) rfl ?_
    refine g_aload_n (j := 0) dX11_append_55 rfl rfl ?_
    refine g_iload_n (j := 3) dX11_append_56 rfl rfl ?_
    obtain ⟨_, h21, hf⟩ := ob hf
    obtain ⟨σ19, v20, eσ19, hf⟩ := cb_el hf
    refine g_callV_v dX11_append_57 (wX11_lay _ eσ19) (okX11_lay _ (by decide) (by decide)) (ckK_el h21) hc15 t_1285 t_1287 s_X11_lay rfl (Nat.le_trans (cat_le _) (Nat.le_of_ble_eq_true rfl)) rfl ?_
    refine g_aload_n (j := 0) dX11_append_60 rfl rfl ?_
    refine g_iload (j := 4) dX11_append_61 rfl ?_
    obtain ⟨_, h24, hf⟩ := ob hf
    obtain ⟨σ22, v23, eσ22, hf⟩ := cb_el hf
    refine g_callV_v dX11_append_63 (wX11_lay _ eσ22) (okX11_lay _ (by decide) (by decide)) (ckK_el h24) hc15 t_1285 t_1287 s_X11_lay rfl (Nat.le_trans (cat_le _) (Nat.le_of_ble_eq_true rfl)) rfl ?_
    refine g_aload_n (j := 0) dX11_append_66 rfl rfl ?_
    refine g_iload (j := 5) dX11_append_67 rfl ?_
    obtain ⟨_, h27, hf⟩ := ob hf
    obtain ⟨σ25, v26, eσ25, hf⟩ := cb_el hf
    refine g_callV_v dX11_append_69 (wX11_lay _ eσ25) (okX11_lay _ (by decide) (by decide)) (ckK_el h27) hc15 t_1285 t_1287 s_X11_lay rfl (Nat.le_trans (cat_le _) (Nat.le_of_ble_eq_true rfl)) rfl ?_
    refine g_aload_n (j := 0) dX11_append_72 rfl rfl ?_
    obtain ⟨v28, ev28, hf⟩ := ob hf
    refine g_getI dX11_append_73 ev28 t_376 hin15 hc15 (by decide) rfl ?_
    cases hf
    exact g_iret dX11_append_76 rfl rfl hX2 hX1 rfl
  · rw [if_neg c12] at hf
    cases hf
    exact g_throw (cls := "java/lang/IllegalStateException") (names := ["java/lang/RuntimeException", "java/lang/Exception"]) dX11_append_37 dX11_append_40 dX11_append_41 dX11_append_44 (by decide +kernel) (by decide +kernel) thw_92 thg_92 (by decide) (by decide) hX2 hX1 rfl

theorem okX11_append (M : Mt) (h1 : 8 + 1 ≤ M.2.2.2.2.1) (h2 : 8 + (6 + 11) + 160 ≤ M.2.2.2.2.2.1) : CallOk M MtX11_append yX11_append 5 := ⟨t_1260, h1, h2, ⟨by decide, by decide⟩, by decide +kernel, t_1⟩
abbrev MtX11_clearTape : Mt := (cX11_clearTape, 2, "ExactlySaid", (Option.some Jvm.ClassFile.FieldType.int), 1, 84, false)
set_option maxRecDepth 100000 in
set_option maxHeartbeats 4000000 in
theorem wX11_clearTape (l : Launch) {σ σf : St} {x0 : Nat} {r : Int32} (hf : fX11_clearTape σ x0 = some (σf, r)) : Con MtX11_clearTape yX11_clearTape l σ [rv x0] σf (some (.int r)) := by
  refine Con.of (by decide +kernel) rfl (fun h => absurd (show false = true from h) (by decide)) (by simp only [sl_n, sl_r, sl_i, sl_l]; exact Nat.le_of_ble_eq_true rfl) ?_
  rw [show lv_args 0 [rv x0] = [(0, rv x0)] by simp only [la_n, la_r, la_i, la_l] <;> rfl]
  have hX1 : ((l, σ, σf, .inl (some (.int r))) : Xt).2.2.1 = σf := rfl
  have hX2 : ((l, σ, σf, .inl (some (.int r))) : Xt).2.2.2 = .inl (some (.int r)) := rfl
  unfold fX11_clearTape at hf
  refine g_aload_n (j := 0) dX11_clearTape_0 rfl rfl ?_
  obtain ⟨v1, ev1, hf⟩ := ob hf
  refine g_getI dX11_clearTape_1 ev1 t_376 hin15 hc15 (by decide) rfl ?_
  refine g_istore_n (i := 1) (L' := [(1, .int v1), (0, rv x0)]) dX11_clearTape_4 rfl (Nat.le_of_ble_eq_true rfl) (by simp [rv_cat]) ?_
  refine g_aload_n (j := 1) dX11_clearTape_5 rfl rfl ?_
  refine g_iconst (v := 0) dX11_clearTape_6 (by decide) ?_
  obtain ⟨σ2, eσ2, hf⟩ := ob hf
  refine g_putI dX11_clearTape_7 eσ2 (Or.inl t_376) hin15 hc15 (by decide) hty15 hnm15 (Or.inl rfl) rfl rfl rfl ?_
  refine g_iload_n (j := 0) dX11_clearTape_10 rfl rfl ?_
  exact g_iret dX11_clearTape_11 rfl rfl hX2 hX1 hf

theorem okX11_clearTape (M : Mt) (h1 : 1 + 1 ≤ M.2.2.2.2.1) (h2 : 8 + (2 + 11) + 84 ≤ M.2.2.2.2.2.1) : CallOk M MtX11_clearTape yX11_clearTape 0 := ⟨t_436, h1, h2, ⟨by decide, by decide⟩, by decide +kernel, t_1⟩
abbrev MtX4_byteAt : Mt := (cX4_byteAt, 2, "ExactlySaid$Reader", (Option.some Jvm.ClassFile.FieldType.int), 1, 84, false)
set_option maxRecDepth 100000 in
set_option maxHeartbeats 4000000 in
theorem wX4_byteAt (l : Launch) {σ σf : St} {x0 : Nat} {x1 : Int32} {r : Int32} (hf : fX4_byteAt σ x0 x1 = some (σf, r)) : Con MtX4_byteAt yX4_byteAt l σ [rv x0, .int x1] σf (some (.int r)) := by
  refine Con.of (by decide +kernel) rfl (fun h => absurd (show false = true from h) (by decide)) (by simp only [sl_n, sl_r, sl_i, sl_l]; exact Nat.le_of_ble_eq_true rfl) ?_
  rw [show lv_args 0 [rv x0, .int x1] = [(0, rv x0), (1, .int x1)] by simp only [la_n, la_r, la_i, la_l] <;> rfl]
  have hX1 : ((l, σ, σf, .inl (some (.int r))) : Xt).2.2.1 = σf := rfl
  have hX2 : ((l, σ, σf, .inl (some (.int r))) : Xt).2.2.2 = .inl (some (.int r)) := rfl
  unfold fX4_byteAt at hf
  refine g_iload_n (j := 1) dX4_byteAt_0 rfl rfl ?_
  refine g_if_lt (tgt := 21) dX4_byteAt_1 (by decide) (fun c1 => ?_) (fun c1 => ?_)
  · rw [if_pos c1] at hf
    refine g_iconst (v := 0) dX4_byteAt_21 (by decide) ?_
    exact g_iret dX4_byteAt_22 rfl rfl hX2 hX1 hf
  · rw [if_neg c1] at hf
    refine g_iload_n (j := 1) dX4_byteAt_4 rfl rfl ?_
    refine g_aload_n (j := 0) dX4_byteAt_5 rfl rfl ?_
    obtain ⟨v2, ev2, hf⟩ := ob hf
    refine g_getI dX4_byteAt_6 ev2 t_219 hin8 hc8 (by decide) rfl ?_
    refine g_icmp_ge (tgt := 21) dX4_byteAt_9 (by decide) (fun c3 => ?_) (fun c3 => ?_)
    · rw [if_pos c3] at hf
      refine g_iconst (v := 0) dX4_byteAt_21 (by decide) ?_
      exact g_iret dX4_byteAt_22 rfl rfl hX2 hX1 hf
    · rw [if_neg c3] at hf
      refine g_aload_n (j := 0) dX4_byteAt_12 rfl rfl ?_
      obtain ⟨v4, ev4, hf⟩ := ob hf
      refine g_getF dX4_byteAt_13 ev4 t_218 hin8 hc8 (by decide) rfl ?_
      refine g_iload_n (j := 1) dX4_byteAt_16 rfl rfl ?_
      obtain ⟨v5, ev5, hf⟩ := ob hf
      refine g_iald dX4_byteAt_17 ev5 ?_
      refine g_goto (tgt := 22) dX4_byteAt_18 (by decide) ?_
      exact g_iret dX4_byteAt_22 rfl rfl hX2 hX1 hf

theorem okX4_byteAt (M : Mt) (h1 : 1 + 1 ≤ M.2.2.2.2.1) (h2 : 8 + (2 + 11) + 84 ≤ M.2.2.2.2.2.1) : CallOk M MtX4_byteAt yX4_byteAt 1 := ⟨t_1323, h1, h2, ⟨by decide, by decide⟩, by decide +kernel, t_10⟩
abbrev MtX4_isLetter : Mt := (cX4_isLetter, 2, "ExactlySaid$Reader", (Option.some Jvm.ClassFile.FieldType.boolean), 2, 105, false)
set_option maxRecDepth 100000 in
set_option maxHeartbeats 4000000 in
theorem wX4_isLetter (l : Launch) {σ σf : St} {x0 : Nat} {x1 : Int32} {r : Int32} (hf : fX4_isLetter σ x0 x1 = some (σf, r)) : Con MtX4_isLetter yX4_isLetter l σ [rv x0, .int x1] σf (some (.int r)) := by
  refine Con.of (by decide +kernel) rfl (fun h => absurd (show false = true from h) (by decide)) (by simp only [sl_n, sl_r, sl_i, sl_l]; exact Nat.le_of_ble_eq_true rfl) ?_
  rw [show lv_args 0 [rv x0, .int x1] = [(0, rv x0), (1, .int x1)] by simp only [la_n, la_r, la_i, la_l] <;> rfl]
  have hX1 : ((l, σ, σf, .inl (some (.int r))) : Xt).2.2.1 = σf := rfl
  have hX2 : ((l, σ, σf, .inl (some (.int r))) : Xt).2.2.2 = .inl (some (.int r)) := rfl
  unfold fX4_isLetter at hf
  refine g_aload_n (j := 0) dX4_isLetter_0 rfl rfl ?_
  refine g_iload_n (j := 1) dX4_isLetter_1 rfl rfl ?_
  obtain ⟨_, h3, hf⟩ := ob hf
  obtain ⟨σ1, v2, eσ1, hf⟩ := cb_el hf
  refine g_callV_i dX4_isLetter_2 (wX4_byteAt _ eσ1) (okX4_byteAt _ (by decide) (by decide)) (ckK_el h3) hc8 t_1320 t_1322 s_X4_byteAt rfl (Nat.le_trans (cat_le _) (Nat.le_of_ble_eq_true rfl)) rfl ?_
  refine g_bipush (v := 97) dX4_isLetter_5 (by decide) ?_
  refine g_icmp_lt (tgt := 24) dX4_isLetter_7 (by decide) (fun c4 => ?_) (fun c4 => ?_)
  · rw [if_pos c4] at hf
    refine g_iconst (v := 0) dX4_isLetter_24 (by decide) ?_
    exact g_iret dX4_isLetter_25 rfl (by decide) hX2 hX1 hf
  · rw [if_neg c4] at hf
    refine g_aload_n (j := 0) dX4_isLetter_10 rfl rfl ?_
    refine g_iload_n (j := 1) dX4_isLetter_11 rfl rfl ?_
    obtain ⟨_, h7, hf⟩ := ob hf
    obtain ⟨σ5, v6, eσ5, hf⟩ := cb_el hf
    refine g_callV_i dX4_isLetter_12 (wX4_byteAt _ eσ5) (okX4_byteAt _ (by decide) (by decide)) (ckK_el h7) hc8 t_1320 t_1322 s_X4_byteAt rfl (Nat.le_trans (cat_le _) (Nat.le_of_ble_eq_true rfl)) rfl ?_
    refine g_bipush (v := 122) dX4_isLetter_15 (by decide) ?_
    refine g_icmp_gt (tgt := 24) dX4_isLetter_17 (by decide) (fun c8 => ?_) (fun c8 => ?_)
    · rw [if_pos c8] at hf
      refine g_iconst (v := 0) dX4_isLetter_24 (by decide) ?_
      exact g_iret dX4_isLetter_25 rfl (by decide) hX2 hX1 hf
    · rw [if_neg c8] at hf
      refine g_iconst (v := 1) dX4_isLetter_20 (by decide) ?_
      refine g_goto (tgt := 25) dX4_isLetter_21 (by decide) ?_
      exact g_iret dX4_isLetter_25 rfl (by decide) hX2 hX1 hf

theorem okX4_isLetter (M : Mt) (h1 : 2 + 1 ≤ M.2.2.2.2.1) (h2 : 8 + (2 + 11) + 105 ≤ M.2.2.2.2.2.1) : CallOk M MtX4_isLetter yX4_isLetter 1 := ⟨t_1331, h1, h2, ⟨by decide, by decide⟩, by decide +kernel, t_10⟩
abbrev MtX4_endOfWord : Mt := (cX4_endOfWord, 3, "ExactlySaid$Reader", (Option.some Jvm.ClassFile.FieldType.int), 3, 126, false)
set_option maxRecDepth 100000 in
set_option maxHeartbeats 4000000 in
theorem bX4_endOfWord_2 {X : Xt} {σf : St} {r : Int32} (hX1 : X.2.2.1 = σf) (hX2 : X.2.2.2 = .inl (some (.int r))) : ∀ (n : Nat) (σ : St) (x0 : Nat) (x2 : Int32), fX4_endOfWord_2 n σ x0 x2 = some (σf, r) → G MtX4_endOfWord X σ 2 [(0, rv x0), (2, .int x2)] [] := by
  intro n
  induction n with
  | zero => intro σ x0 x2 hf; cases hf
  | succ n ih =>
    intro σ x0 x2 hf
    rw [fX4_endOfWord_2] at hf
    refine g_iload_n (j := 1) dX4_endOfWord_2 rfl rfl ?_
    refine g_aload_n (j := 0) dX4_endOfWord_3 rfl rfl ?_
    obtain ⟨v1, ev1, hf⟩ := ob hf
    refine g_getI dX4_endOfWord_4 ev1 t_219 hin8 hc8 (by decide) rfl ?_
    refine g_icmp_ge (tgt := 24) dX4_endOfWord_7 (by decide) (fun c2 => ?_) (fun c2 => ?_)
    · rw [if_pos c2] at hf
      refine g_iload_n (j := 1) dX4_endOfWord_24 rfl rfl ?_
      exact g_iret dX4_endOfWord_25 rfl rfl hX2 hX1 hf
    · rw [if_neg c2] at hf
      refine g_aload_n (j := 0) dX4_endOfWord_10 rfl rfl ?_
      refine g_iload_n (j := 1) dX4_endOfWord_11 rfl rfl ?_
      obtain ⟨_, h5, hf⟩ := ob hf
      obtain ⟨σ3, v4, eσ3, hf⟩ := cb_el hf
      refine g_callV_i dX4_endOfWord_12 (wX4_isLetter _ eσ3) (okX4_isLetter _ (by decide) (by decide)) (ckK_el h5) hc8 t_1328 t_1330 s_X4_isLetter rfl (Nat.le_trans (cat_le _) (Nat.le_of_ble_eq_true rfl)) rfl ?_
      refine g_if_eq (tgt := 24) dX4_endOfWord_15 (by decide) (fun c6 => ?_) (fun c6 => ?_)
      · rw [if_pos c6] at hf
        refine g_iload_n (j := 1) dX4_endOfWord_24 rfl rfl ?_
        exact g_iret dX4_endOfWord_25 rfl rfl hX2 hX1 hf
      · rw [if_neg c6] at hf
        obtain ⟨v7, ev7, hf⟩ := nm_el hf
        refine g_iinc (L' := [(2, .int v7), (0, rv x0)]) (j := 1) (v := v7) dX4_endOfWord_18 rfl (by rw [ev7]; rfl) (Nat.le_of_ble_eq_true rfl) rfl ?_
        refine g_goto (tgt := 2) dX4_endOfWord_21 (by decide) ?_
        refine g_sub (L' := [(0, rv x0), (2, .int v7)]) [1, 0] rfl ?_
        exact ih _ _ _ hf

set_option maxRecDepth 100000 in
set_option maxHeartbeats 4000000 in
theorem wX4_endOfWord (l : Launch) {σ σf : St} {x0 : Nat} {x1 : Int32} {r : Int32} (hf : fX4_endOfWord σ x0 x1 = some (σf, r)) : Con MtX4_endOfWord yX4_endOfWord l σ [rv x0, .int x1] σf (some (.int r)) := by
  refine Con.of (by decide +kernel) rfl (fun h => absurd (show false = true from h) (by decide)) (by simp only [sl_n, sl_r, sl_i, sl_l]; exact Nat.le_of_ble_eq_true rfl) ?_
  rw [show lv_args 0 [rv x0, .int x1] = [(0, rv x0), (1, .int x1)] by simp only [la_n, la_r, la_i, la_l] <;> rfl]
  have hX1 : ((l, σ, σf, .inl (some (.int r))) : Xt).2.2.1 = σf := rfl
  have hX2 : ((l, σ, σf, .inl (some (.int r))) : Xt).2.2.2 = .inl (some (.int r)) := rfl
  unfold fX4_endOfWord at hf
  refine g_iload_n (j := 1) dX4_endOfWord_0 rfl rfl ?_
  refine g_istore_n (i := 2) (L' := [(2, .int x1), (0, rv x0), (1, .int x1)]) dX4_endOfWord_1 rfl (Nat.le_of_ble_eq_true rfl) rfl ?_
  refine g_sub (L' := [(0, rv x0), (2, .int x1)]) [1, 0] rfl ?_
  exact bX4_endOfWord_2 hX1 hX2 FU _ _ _ hf

theorem okX4_endOfWord (M : Mt) (h1 : 3 + 1 ≤ M.2.2.2.2.1) (h2 : 8 + (3 + 11) + 126 ≤ M.2.2.2.2.2.1) : CallOk M MtX4_endOfWord yX4_endOfWord 1 := ⟨t_1335, h1, h2, ⟨by decide, by decide⟩, by decide +kernel, t_10⟩
abbrev MtX4_isDigit : Mt := (cX4_isDigit, 2, "ExactlySaid$Reader", (Option.some Jvm.ClassFile.FieldType.boolean), 2, 105, false)
set_option maxRecDepth 100000 in
set_option maxHeartbeats 4000000 in
theorem wX4_isDigit (l : Launch) {σ σf : St} {x0 : Nat} {x1 : Int32} {r : Int32} (hf : fX4_isDigit σ x0 x1 = some (σf, r)) : Con MtX4_isDigit yX4_isDigit l σ [rv x0, .int x1] σf (some (.int r)) := by
  refine Con.of (by decide +kernel) rfl (fun h => absurd (show false = true from h) (by decide)) (by simp only [sl_n, sl_r, sl_i, sl_l]; exact Nat.le_of_ble_eq_true rfl) ?_
  rw [show lv_args 0 [rv x0, .int x1] = [(0, rv x0), (1, .int x1)] by simp only [la_n, la_r, la_i, la_l] <;> rfl]
  have hX1 : ((l, σ, σf, .inl (some (.int r))) : Xt).2.2.1 = σf := rfl
  have hX2 : ((l, σ, σf, .inl (some (.int r))) : Xt).2.2.2 = .inl (some (.int r)) := rfl
  unfold fX4_isDigit at hf
  refine g_aload_n (j := 0) dX4_isDigit_0 rfl rfl ?_
  refine g_iload_n (j := 1) dX4_isDigit_1 rfl rfl ?_
  obtain ⟨_, h3, hf⟩ := ob hf
  obtain ⟨σ1, v2, eσ1, hf⟩ := cb_el hf
  refine g_callV_i dX4_isDigit_2 (wX4_byteAt _ eσ1) (okX4_byteAt _ (by decide) (by decide)) (ckK_el h3) hc8 t_1320 t_1322 s_X4_byteAt rfl (Nat.le_trans (cat_le _) (Nat.le_of_ble_eq_true rfl)) rfl ?_
  refine g_bipush (v := 48) dX4_isDigit_5 (by decide) ?_
  refine g_icmp_lt (tgt := 24) dX4_isDigit_7 (by decide) (fun c4 => ?_) (fun c4 => ?_)
  · rw [if_pos c4] at hf
    refine g_iconst (v := 0) dX4_isDigit_24 (by decide) ?_
    exact g_iret dX4_isDigit_25 rfl (by decide) hX2 hX1 hf
  · rw [if_neg c4] at hf
    refine g_aload_n (j := 0) dX4_isDigit_10 rfl rfl ?_
    refine g_iload_n (j := 1) dX4_isDigit_11 rfl rfl ?_
    obtain ⟨_, h7, hf⟩ := ob hf
    obtain ⟨σ5, v6, eσ5, hf⟩ := cb_el hf
    refine g_callV_i dX4_isDigit_12 (wX4_byteAt _ eσ5) (okX4_byteAt _ (by decide) (by decide)) (ckK_el h7) hc8 t_1320 t_1322 s_X4_byteAt rfl (Nat.le_trans (cat_le _) (Nat.le_of_ble_eq_true rfl)) rfl ?_
    refine g_bipush (v := 57) dX4_isDigit_15 (by decide) ?_
    refine g_icmp_gt (tgt := 24) dX4_isDigit_17 (by decide) (fun c8 => ?_) (fun c8 => ?_)
    · rw [if_pos c8] at hf
      refine g_iconst (v := 0) dX4_isDigit_24 (by decide) ?_
      exact g_iret dX4_isDigit_25 rfl (by decide) hX2 hX1 hf
    · rw [if_neg c8] at hf
      refine g_iconst (v := 1) dX4_isDigit_20 (by decide) ?_
      refine g_goto (tgt := 25) dX4_isDigit_21 (by decide) ?_
      exact g_iret dX4_isDigit_25 rfl (by decide) hX2 hX1 hf

theorem okX4_isDigit (M : Mt) (h1 : 2 + 1 ≤ M.2.2.2.2.1) (h2 : 8 + (2 + 11) + 105 ≤ M.2.2.2.2.2.1) : CallOk M MtX4_isDigit yX4_isDigit 1 := ⟨t_1339, h1, h2, ⟨by decide, by decide⟩, by decide +kernel, t_10⟩
abbrev MtX4_endOfDigits : Mt := (cX4_endOfDigits, 3, "ExactlySaid$Reader", (Option.some Jvm.ClassFile.FieldType.int), 3, 126, false)
set_option maxRecDepth 100000 in
set_option maxHeartbeats 4000000 in
theorem bX4_endOfDigits_2 {X : Xt} {σf : St} {r : Int32} (hX1 : X.2.2.1 = σf) (hX2 : X.2.2.2 = .inl (some (.int r))) : ∀ (n : Nat) (σ : St) (x0 : Nat) (x2 : Int32), fX4_endOfDigits_2 n σ x0 x2 = some (σf, r) → G MtX4_endOfDigits X σ 2 [(0, rv x0), (2, .int x2)] [] := by
  intro n
  induction n with
  | zero => intro σ x0 x2 hf; cases hf
  | succ n ih =>
    intro σ x0 x2 hf
    rw [fX4_endOfDigits_2] at hf
    refine g_iload_n (j := 1) dX4_endOfDigits_2 rfl rfl ?_
    refine g_aload_n (j := 0) dX4_endOfDigits_3 rfl rfl ?_
    obtain ⟨v1, ev1, hf⟩ := ob hf
    refine g_getI dX4_endOfDigits_4 ev1 t_219 hin8 hc8 (by decide) rfl ?_
    refine g_icmp_ge (tgt := 24) dX4_endOfDigits_7 (by decide) (fun c2 => ?_) (fun c2 => ?_)
    · rw [if_pos c2] at hf
      refine g_iload_n (j := 1) dX4_endOfDigits_24 rfl rfl ?_
      exact g_iret dX4_endOfDigits_25 rfl rfl hX2 hX1 hf
    · rw [if_neg c2] at hf
      refine g_aload_n (j := 0) dX4_endOfDigits_10 rfl rfl ?_
      refine g_iload_n (j := 1) dX4_endOfDigits_11 rfl rfl ?_
      obtain ⟨_, h5, hf⟩ := ob hf
      obtain ⟨σ3, v4, eσ3, hf⟩ := cb_el hf
      refine g_callV_i dX4_endOfDigits_12 (wX4_isDigit _ eσ3) (okX4_isDigit _ (by decide) (by decide)) (ckK_el h5) hc8 t_1336 t_1338 s_X4_isDigit rfl (Nat.le_trans (cat_le _) (Nat.le_of_ble_eq_true rfl)) rfl ?_
      refine g_if_eq (tgt := 24) dX4_endOfDigits_15 (by decide) (fun c6 => ?_) (fun c6 => ?_)
      · rw [if_pos c6] at hf
        refine g_iload_n (j := 1) dX4_endOfDigits_24 rfl rfl ?_
        exact g_iret dX4_endOfDigits_25 rfl rfl hX2 hX1 hf
      · rw [if_neg c6] at hf
        obtain ⟨v7, ev7, hf⟩ := nm_el hf
        refine g_iinc (L' := [(2, .int v7), (0, rv x0)]) (j := 1) (v := v7) dX4_endOfDigits_18 rfl (by rw [ev7]; rfl) (Nat.le_of_ble_eq_true rfl) rfl ?_
        refine g_goto (tgt := 2) dX4_endOfDigits_21 (by decide) ?_
        refine g_sub (L' := [(0, rv x0), (2, .int v7)]) [1, 0] rfl ?_
        exact ih _ _ _ hf

set_option maxRecDepth 100000 in
set_option maxHeartbeats 4000000 in
theorem wX4_endOfDigits (l : Launch) {σ σf : St} {x0 : Nat} {x1 : Int32} {r : Int32} (hf : fX4_endOfDigits σ x0 x1 = some (σf, r)) : Con MtX4_endOfDigits yX4_endOfDigits l σ [rv x0, .int x1] σf (some (.int r)) := by
  refine Con.of (by decide +kernel) rfl (fun h => absurd (show false = true from h) (by decide)) (by simp only [sl_n, sl_r, sl_i, sl_l]; exact Nat.le_of_ble_eq_true rfl) ?_
  rw [show lv_args 0 [rv x0, .int x1] = [(0, rv x0), (1, .int x1)] by simp only [la_n, la_r, la_i, la_l] <;> rfl]
  have hX1 : ((l, σ, σf, .inl (some (.int r))) : Xt).2.2.1 = σf := rfl
  have hX2 : ((l, σ, σf, .inl (some (.int r))) : Xt).2.2.2 = .inl (some (.int r)) := rfl
  unfold fX4_endOfDigits at hf
  refine g_iload_n (j := 1) dX4_endOfDigits_0 rfl rfl ?_
  refine g_istore_n (i := 2) (L' := [(2, .int x1), (0, rv x0), (1, .int x1)]) dX4_endOfDigits_1 rfl (Nat.le_of_ble_eq_true rfl) rfl ?_
  refine g_sub (L' := [(0, rv x0), (2, .int x1)]) [1, 0] rfl ?_
  exact bX4_endOfDigits_2 hX1 hX2 FU _ _ _ hf

theorem okX4_endOfDigits (M : Mt) (h1 : 3 + 1 ≤ M.2.2.2.2.1) (h2 : 8 + (3 + 11) + 126 ≤ M.2.2.2.2.2.1) : CallOk M MtX4_endOfDigits yX4_endOfDigits 1 := ⟨t_1347, h1, h2, ⟨by decide, by decide⟩, by decide +kernel, t_10⟩
abbrev MtX4_endOfNumber : Mt := (cX4_endOfNumber, 5, "ExactlySaid$Reader", (Option.some Jvm.ClassFile.FieldType.int), 4, 148, false)
set_option maxRecDepth 100000 in
set_option maxHeartbeats 4000000 in
theorem wX4_endOfNumber (l : Launch) {σ σf : St} {x0 : Nat} {x1 : Int32} {r : Int32} (hf : fX4_endOfNumber σ x0 x1 = some (σf, r)) : Con MtX4_endOfNumber yX4_endOfNumber l σ [rv x0, .int x1] σf (some (.int r)) := by
  refine Con.of (by decide +kernel) rfl (fun h => absurd (show false = true from h) (by decide)) (by simp only [sl_n, sl_r, sl_i, sl_l]; exact Nat.le_of_ble_eq_true rfl) ?_
  rw [show lv_args 0 [rv x0, .int x1] = [(0, rv x0), (1, .int x1)] by simp only [la_n, la_r, la_i, la_l] <;> rfl]
  have hX1 : ((l, σ, σf, .inl (some (.int r))) : Xt).2.2.1 = σf := rfl
  have hX2 : ((l, σ, σf, .inl (some (.int r))) : Xt).2.2.2 = .inl (some (.int r)) := rfl
  unfold fX4_endOfNumber at hf
  refine g_aload_n (j := 0) dX4_endOfNumber_0 rfl rfl ?_
  refine g_iload_n (j := 1) dX4_endOfNumber_1 rfl rfl ?_
  obtain ⟨_, h3, hf⟩ := ob hf
  obtain ⟨σ1, v2, eσ1, hf⟩ := cb_el hf
  refine g_callV_i dX4_endOfNumber_2 (wX4_endOfDigits _ eσ1) (okX4_endOfDigits _ (by decide) (by decide)) (ckK_el h3) hc8 t_1344 t_1346 s_X4_endOfDigits rfl (Nat.le_trans (cat_le _) (Nat.le_of_ble_eq_true rfl)) rfl ?_
  refine g_istore_n (i := 2) (L' := [(2, .int v2), (0, rv x0), (1, .int x1)]) dX4_endOfNumber_5 rfl (Nat.le_of_ble_eq_true rfl) rfl ?_
  refine g_iload_n (j := 0) dX4_endOfNumber_6 rfl rfl ?_
  refine g_iload_n (j := 2) dX4_endOfNumber_7 rfl rfl ?_
  refine g_isub dX4_endOfNumber_8 ?_
  refine g_bipush (v := 12) dX4_endOfNumber_9 (by decide) ?_
  refine g_icmp_le (tgt := 16) dX4_endOfNumber_11 (by decide) (fun c4 => ?_) (fun c4 => ?_)
  · rw [if_pos c4] at hf
    refine g_aload_n (j := 1) dX4_endOfNumber_16 rfl rfl ?_
    refine g_iload_n (j := 0) dX4_endOfNumber_17 rfl rfl ?_
    obtain ⟨_, h7, hf⟩ := ob hf
    obtain ⟨σ5, v6, eσ5, hf⟩ := cb_el hf
    refine g_callV_i dX4_endOfNumber_18 (wX4_byteAt _ eσ5) (okX4_byteAt _ (by decide) (by decide)) (ckK_el h7) hc8 t_1320 t_1322 s_X4_byteAt rfl (Nat.le_trans (cat_le _) (Nat.le_of_ble_eq_true rfl)) rfl ?_
    refine g_bipush (v := 46) dX4_endOfNumber_21 (by decide) ?_
    refine g_icmp_eq (tgt := 28) dX4_endOfNumber_23 (by decide) (fun c8 => ?_) (fun c8 => ?_)
    · rw [if_pos c8] at hf
      refine g_aload_n (j := 1) dX4_endOfNumber_28 rfl rfl ?_
      refine g_iload_n (j := 0) dX4_endOfNumber_29 rfl rfl ?_
      refine g_iconst (v := 1) dX4_endOfNumber_30 (by decide) ?_
      refine g_iadd dX4_endOfNumber_31 ?_
      obtain ⟨_, h11, hf⟩ := ob hf
      obtain ⟨σ9, v10, eσ9, hf⟩ := cb_el hf
      refine g_callV_i dX4_endOfNumber_32 (wX4_endOfDigits _ eσ9) (okX4_endOfDigits _ (by decide) (by decide)) (ckK_el h11) hc8 t_1344 t_1346 s_X4_endOfDigits rfl (Nat.le_trans (cat_le _) (Nat.le_of_ble_eq_true rfl)) rfl ?_
      refine g_istore_n (i := 3) (L' := [(3, .int v10), (2, .int v2), (0, rv x0), (1, .int x1)]) dX4_endOfNumber_35 rfl (Nat.le_of_ble_eq_true rfl) rfl ?_
      refine g_iload_n (j := 0) dX4_endOfNumber_36 rfl rfl ?_
      refine g_iload_n (j := 1) dX4_endOfNumber_37 rfl rfl ?_
      refine g_isub dX4_endOfNumber_38 ?_
      refine g_bipush (v := 7) dX4_endOfNumber_39 (by decide) ?_
      refine g_icmp_le (tgt := 46) dX4_endOfNumber_41 (by decide) (fun c12 => ?_) (fun c12 => ?_)
      · rw [if_pos c12] at hf
        refine g_aload_n (j := 2) dX4_endOfNumber_46 rfl rfl ?_
        refine g_iload_n (j := 0) dX4_endOfNumber_47 rfl rfl ?_
        obtain ⟨_, h15, hf⟩ := ob hf
        obtain ⟨σ13, v14, eσ13, hf⟩ := cb_el hf
        refine g_callV_i dX4_endOfNumber_48 (wX4_byteAt _ eσ13) (okX4_byteAt _ (by decide) (by decide)) (ckK_el h15) hc8 t_1320 t_1322 s_X4_byteAt rfl (Nat.le_trans (cat_le _) (Nat.le_of_ble_eq_true rfl)) rfl ?_
        refine g_bipush (v := 91) dX4_endOfNumber_51 (by decide) ?_
        refine g_icmp_eq (tgt := 69) dX4_endOfNumber_53 (by decide) (fun c16 => ?_) (fun c16 => ?_)
        · rw [if_pos c16] at hf
          refine g_aload_n (j := 2) dX4_endOfNumber_69 rfl rfl ?_
          refine g_iload_n (j := 0) dX4_endOfNumber_70 rfl rfl ?_
          refine g_iconst (v := 1) dX4_endOfNumber_71 (by decide) ?_
          refine g_iadd dX4_endOfNumber_72 ?_
          obtain ⟨_, h19, hf⟩ := ob hf
          obtain ⟨σ17, v18, eσ17, hf⟩ := cb_el hf
          refine g_callV_i dX4_endOfNumber_73 (wX4_endOfDigits _ eσ17) (okX4_endOfDigits _ (by decide) (by decide)) (ckK_el h19) hc8 t_1344 t_1346 s_X4_endOfDigits rfl (Nat.le_trans (cat_le _) (Nat.le_of_ble_eq_true rfl)) rfl ?_
          refine g_istore (i := 4) (L' := [(4, .int v18), (3, .int v10), (2, .int v2), (0, rv x0), (1, .int x1)]) dX4_endOfNumber_76 (Nat.le_of_ble_eq_true rfl) rfl ?_
          refine g_iload (j := 0) dX4_endOfNumber_78 rfl ?_
          refine g_iload_n (j := 1) dX4_endOfNumber_80 rfl rfl ?_
          refine g_iconst (v := 1) dX4_endOfNumber_81 (by decide) ?_
          refine g_iadd dX4_endOfNumber_82 ?_
          refine g_icmp_eq (tgt := 106) dX4_endOfNumber_83 (by decide) (fun c20 => ?_) (fun c20 => ?_)
          · rw [if_pos c20] at hf
            refine g_iconst (v := (-1)) dX4_endOfNumber_106 (by decide) ?_
            exact g_iret dX4_endOfNumber_107 rfl rfl hX2 hX1 hf
          · rw [if_neg c20] at hf
            refine g_iload (j := 0) dX4_endOfNumber_86 rfl ?_
            refine g_iload_n (j := 1) dX4_endOfNumber_88 rfl rfl ?_
            refine g_isub dX4_endOfNumber_89 ?_
            refine g_bipush (v := 7) dX4_endOfNumber_90 (by decide) ?_
            refine g_icmp_gt (tgt := 106) dX4_endOfNumber_92 (by decide) (fun c21 => ?_) (fun c21 => ?_)
            · rw [if_pos c21] at hf
              refine g_iconst (v := (-1)) dX4_endOfNumber_106 (by decide) ?_
              exact g_iret dX4_endOfNumber_107 rfl rfl hX2 hX1 hf
            · rw [if_neg c21] at hf
              refine g_aload_n (j := 3) dX4_endOfNumber_95 rfl rfl ?_
              refine g_iload (j := 0) dX4_endOfNumber_96 rfl ?_
              obtain ⟨_, h24, hf⟩ := ob hf
              obtain ⟨σ22, v23, eσ22, hf⟩ := cb_el hf
              refine g_callV_i dX4_endOfNumber_98 (wX4_byteAt _ eσ22) (okX4_byteAt _ (by decide) (by decide)) (ckK_el h24) hc8 t_1320 t_1322 s_X4_byteAt rfl (Nat.le_trans (cat_le _) (Nat.le_of_ble_eq_true rfl)) rfl ?_
              refine g_bipush (v := 93) dX4_endOfNumber_101 (by decide) ?_
              refine g_icmp_eq (tgt := 108) dX4_endOfNumber_103 (by decide) (fun c25 => ?_) (fun c25 => ?_)
              · rw [if_pos c25] at hf
                refine g_iload (j := 0) dX4_endOfNumber_108 rfl ?_
                refine g_iconst (v := 1) dX4_endOfNumber_110 (by decide) ?_
                refine g_iadd dX4_endOfNumber_111 ?_
                exact g_iret dX4_endOfNumber_112 rfl rfl hX2 hX1 hf
              · rw [if_neg c25] at hf
                refine g_iconst (v := (-1)) dX4_endOfNumber_106 (by decide) ?_
                exact g_iret dX4_endOfNumber_107 rfl rfl hX2 hX1 hf
        · rw [if_neg c16] at hf
          refine g_iload_n (j := 0) dX4_endOfNumber_56 rfl rfl ?_
          refine g_iload_n (j := 1) dX4_endOfNumber_57 rfl rfl ?_
          refine g_iconst (v := 1) dX4_endOfNumber_58 (by decide) ?_
          refine g_iadd dX4_endOfNumber_59 ?_
          refine g_icmp_ne (tgt := 67) dX4_endOfNumber_60 (by decide) (fun c26 => ?_) (fun c26 => ?_)
          · rw [if_neg c26] at hf
            refine g_iload_n (j := 0) dX4_endOfNumber_67 rfl rfl ?_
            exact g_iret dX4_endOfNumber_68 rfl rfl hX2 hX1 hf
          · rw [if_pos c26] at hf
            refine g_iconst (v := (-1)) dX4_endOfNumber_63 (by decide) ?_
            refine g_goto (tgt := 68) dX4_endOfNumber_64 (by decide) ?_
            exact g_iret dX4_endOfNumber_68 rfl rfl hX2 hX1 hf
      · rw [if_neg c12] at hf
        refine g_iconst (v := (-1)) dX4_endOfNumber_44 (by decide) ?_
        exact g_iret dX4_endOfNumber_45 rfl rfl hX2 hX1 hf
    · rw [if_neg c8] at hf
      refine g_iload_n (j := 0) dX4_endOfNumber_26 rfl rfl ?_
      exact g_iret dX4_endOfNumber_27 rfl rfl hX2 hX1 hf
  · rw [if_neg c4] at hf
    refine g_iconst (v := (-1)) dX4_endOfNumber_14 (by decide) ?_
    exact g_iret dX4_endOfNumber_15 rfl rfl hX2 hX1 hf

theorem okX4_endOfNumber (M : Mt) (h1 : 4 + 1 ≤ M.2.2.2.2.1) (h2 : 8 + (5 + 11) + 148 ≤ M.2.2.2.2.2.1) : CallOk M MtX4_endOfNumber yX4_endOfNumber 1 := ⟨t_1343, h1, h2, ⟨by decide, by decide⟩, by decide +kernel, t_10⟩
abbrev MtX4_tokenFrom : Mt := (cX4_tokenFrom, 2, "ExactlySaid$Reader", (Option.some Jvm.ClassFile.FieldType.int), 5, 172, false)
set_option maxRecDepth 100000 in
set_option maxHeartbeats 4000000 in
theorem bX4_tokenFrom_164 {X : Xt} {σf : St} {r : Int32} (hX1 : X.2.2.1 = σf) (hX2 : X.2.2.2 = .inl (some (.int r))) {σ : St} {x0 : Nat} {x1 : Int32} (hf : fX4_tokenFrom_164 σ x0 x1 = some (σf, r)) : G MtX4_tokenFrom X σ 164 [(0, rv x0), (1, .int x1)] [] := by
  unfold fX4_tokenFrom_164 at hf
  refine g_aload_n (j := 0) dX4_tokenFrom_164 rfl rfl ?_
  refine g_iload_n (j := 1) dX4_tokenFrom_165 rfl rfl ?_
  obtain ⟨_, h3, hf⟩ := ob hf
  obtain ⟨σ1, v2, eσ1, hf⟩ := cb_el hf
  refine g_callV_i dX4_tokenFrom_166 (wX4_byteAt _ eσ1) (okX4_byteAt _ (by decide) (by decide)) (ckK_el h3) hc8 t_1320 t_1322 s_X4_byteAt rfl (Nat.le_trans (cat_le _) (Nat.le_of_ble_eq_true rfl)) rfl ?_
  exact g_iret dX4_tokenFrom_169 rfl rfl hX2 hX1 hf

set_option maxRecDepth 100000 in
set_option maxHeartbeats 4000000 in
theorem wX4_tokenFrom (l : Launch) {σ σf : St} {x0 : Nat} {x1 : Int32} {r : Int32} (hf : fX4_tokenFrom σ x0 x1 = some (σf, r)) : Con MtX4_tokenFrom yX4_tokenFrom l σ [rv x0, .int x1] σf (some (.int r)) := by
  refine Con.of (by decide +kernel) rfl (fun h => absurd (show false = true from h) (by decide)) (by simp only [sl_n, sl_r, sl_i, sl_l]; exact Nat.le_of_ble_eq_true rfl) ?_
  rw [show lv_args 0 [rv x0, .int x1] = [(0, rv x0), (1, .int x1)] by simp only [la_n, la_r, la_i, la_l] <;> rfl]
  have hX1 : ((l, σ, σf, .inl (some (.int r))) : Xt).2.2.1 = σf := rfl
  have hX2 : ((l, σ, σf, .inl (some (.int r))) : Xt).2.2.2 = .inl (some (.int r)) := rfl
  unfold fX4_tokenFrom at hf
  refine g_iload_n (j := 1) dX4_tokenFrom_0 rfl rfl ?_
  refine g_aload_n (j := 0) dX4_tokenFrom_1 rfl rfl ?_
  obtain ⟨v1, ev1, hf⟩ := ob hf
  refine g_getI dX4_tokenFrom_2 ev1 t_219 hin8 hc8 (by decide) rfl ?_
  refine g_icmp_lt (tgt := 10) dX4_tokenFrom_5 (by decide) (fun c2 => ?_) (fun c2 => ?_)
  · rw [if_pos c2] at hf
    refine g_aload_n (j := 0) dX4_tokenFrom_10 rfl rfl ?_
    refine g_iload_n (j := 1) dX4_tokenFrom_11 rfl rfl ?_
    obtain ⟨_, h5, hf⟩ := ob hf
    obtain ⟨σ3, v4, eσ3, hf⟩ := cb_el hf
    refine g_callV_i dX4_tokenFrom_12 (wX4_isLetter _ eσ3) (okX4_isLetter _ (by decide) (by decide)) (ckK_el h5) hc8 t_1328 t_1330 s_X4_isLetter rfl (Nat.le_trans (cat_le _) (Nat.le_of_ble_eq_true rfl)) rfl ?_
    refine g_if_eq (tgt := 36) dX4_tokenFrom_15 (by decide) (fun c6 => ?_) (fun c6 => ?_)
    · rw [if_pos c6] at hf
      refine g_aload_n (j := 0) dX4_tokenFrom_36 rfl rfl ?_
      refine g_iload_n (j := 1) dX4_tokenFrom_37 rfl rfl ?_
      obtain ⟨_, h9, hf⟩ := ob hf
      obtain ⟨σ7, v8, eσ7, hf⟩ := cb_el hf
      refine g_callV_i dX4_tokenFrom_38 (wX4_isDigit _ eσ7) (okX4_isDigit _ (by decide) (by decide)) (ckK_el h9) hc8 t_1336 t_1338 s_X4_isDigit rfl (Nat.le_trans (cat_le _) (Nat.le_of_ble_eq_true rfl)) rfl ?_
      refine g_if_eq (tgt := 59) dX4_tokenFrom_41 (by decide) (fun c10 => ?_) (fun c10 => ?_)
      · rw [if_pos c10] at hf
        refine g_aload_n (j := 0) dX4_tokenFrom_59 rfl rfl ?_
        refine g_iload_n (j := 1) dX4_tokenFrom_60 rfl rfl ?_
        obtain ⟨_, h13, hf⟩ := ob hf
        obtain ⟨σ11, v12, eσ11, hf⟩ := cb_el hf
        refine g_callV_i dX4_tokenFrom_61 (wX4_byteAt _ eσ11) (okX4_byteAt _ (by decide) (by decide)) (ckK_el h13) hc8 t_1320 t_1322 s_X4_byteAt rfl (Nat.le_trans (cat_le _) (Nat.le_of_ble_eq_true rfl)) rfl ?_
        by_cases c14 : v12 = 33
        · rw [if_pos c14] at hf
          refine g_lsw (off := 100) (tgt := 164) dX4_tokenFrom_64 (by decide) (by rw [c14] <;> rfl) (by decide) ?_
          exact bX4_tokenFrom_164 hX1 hX2 hf
        · rw [if_neg c14] at hf
          by_cases c15 : v12 = 37
          · rw [if_pos c15] at hf
            refine g_lsw (off := 100) (tgt := 164) dX4_tokenFrom_64 (by decide) (by rw [c15] <;> rfl) (by decide) ?_
            exact bX4_tokenFrom_164 hX1 hX2 hf
          · rw [if_neg c15] at hf
            by_cases c16 : v12 = 40
            · rw [if_pos c16] at hf
              refine g_lsw (off := 100) (tgt := 164) dX4_tokenFrom_64 (by decide) (by rw [c16] <;> rfl) (by decide) ?_
              exact bX4_tokenFrom_164 hX1 hX2 hf
            · rw [if_neg c16] at hf
              by_cases c17 : v12 = 41
              · rw [if_pos c17] at hf
                refine g_lsw (off := 100) (tgt := 164) dX4_tokenFrom_64 (by decide) (by rw [c17] <;> rfl) (by decide) ?_
                exact bX4_tokenFrom_164 hX1 hX2 hf
              · rw [if_neg c17] at hf
                by_cases c18 : v12 = 42
                · rw [if_pos c18] at hf
                  refine g_lsw (off := 100) (tgt := 164) dX4_tokenFrom_64 (by decide) (by rw [c18] <;> rfl) (by decide) ?_
                  exact bX4_tokenFrom_164 hX1 hX2 hf
                · rw [if_neg c18] at hf
                  by_cases c19 : v12 = 43
                  · rw [if_pos c19] at hf
                    refine g_lsw (off := 100) (tgt := 164) dX4_tokenFrom_64 (by decide) (by rw [c19] <;> rfl) (by decide) ?_
                    exact bX4_tokenFrom_164 hX1 hX2 hf
                  · rw [if_neg c19] at hf
                    by_cases c20 : v12 = 44
                    · rw [if_pos c20] at hf
                      refine g_lsw (off := 100) (tgt := 164) dX4_tokenFrom_64 (by decide) (by rw [c20] <;> rfl) (by decide) ?_
                      exact bX4_tokenFrom_164 hX1 hX2 hf
                    · rw [if_neg c20] at hf
                      by_cases c21 : v12 = 45
                      · rw [if_pos c21] at hf
                        refine g_lsw (off := 100) (tgt := 164) dX4_tokenFrom_64 (by decide) (by rw [c21] <;> rfl) (by decide) ?_
                        exact bX4_tokenFrom_164 hX1 hX2 hf
                      · rw [if_neg c21] at hf
                        by_cases c22 : v12 = 47
                        · rw [if_pos c22] at hf
                          refine g_lsw (off := 100) (tgt := 164) dX4_tokenFrom_64 (by decide) (by rw [c22] <;> rfl) (by decide) ?_
                          exact bX4_tokenFrom_164 hX1 hX2 hf
                        · rw [if_neg c22] at hf
                          by_cases c23 : v12 = 61
                          · rw [if_pos c23] at hf
                            refine g_lsw (off := 100) (tgt := 164) dX4_tokenFrom_64 (by decide) (by rw [c23] <;> rfl) (by decide) ?_
                            exact bX4_tokenFrom_164 hX1 hX2 hf
                          · rw [if_neg c23] at hf
                            by_cases c24 : v12 = 94
                            · rw [if_pos c24] at hf
                              refine g_lsw (off := 100) (tgt := 164) dX4_tokenFrom_64 (by decide) (by rw [c24] <;> rfl) (by decide) ?_
                              exact bX4_tokenFrom_164 hX1 hX2 hf
                            · rw [if_neg c24] at hf
                              refine g_lsw (off := 106) (tgt := 170) dX4_tokenFrom_64 (by decide) ((lv_osw c14 rfl).trans ((lv_osw c15 rfl).trans ((lv_osw c16 rfl).trans ((lv_osw c17 rfl).trans ((lv_osw c18 rfl).trans ((lv_osw c19 rfl).trans ((lv_osw c20 rfl).trans ((lv_osw c21 rfl).trans ((lv_osw c22 rfl).trans ((lv_osw c23 rfl).trans ((lv_osw c24 rfl).trans rfl))))))))))) (by decide) ?_
                              refine g_iconst (v := 3) dX4_tokenFrom_170 (by decide) ?_
                              exact g_iret dX4_tokenFrom_171 rfl rfl hX2 hX1 hf
      · rw [if_neg c10] at hf
        refine g_aload_n (j := 0) dX4_tokenFrom_44 rfl rfl ?_
        refine g_iload_n (j := 1) dX4_tokenFrom_45 rfl rfl ?_
        obtain ⟨_, h27, hf⟩ := ob hf
        obtain ⟨σ25, v26, eσ25, hf⟩ := cb_el hf
        refine g_callV_i dX4_tokenFrom_46 (wX4_endOfNumber _ eσ25) (okX4_endOfNumber _ (by decide) (by decide)) (ckK_el h27) hc8 t_1340 t_1342 s_X4_endOfNumber rfl (Nat.le_trans (cat_le _) (Nat.le_of_ble_eq_true rfl)) rfl ?_
        refine g_iconst (v := (-1)) dX4_tokenFrom_49 (by decide) ?_
        refine g_icmp_ne (tgt := 57) dX4_tokenFrom_50 (by decide) (fun c28 => ?_) (fun c28 => ?_)
        · rw [if_neg c28] at hf
          refine g_iconst (v := 2) dX4_tokenFrom_57 (by decide) ?_
          exact g_iret dX4_tokenFrom_58 rfl rfl hX2 hX1 hf
        · rw [if_pos c28] at hf
          refine g_iconst (v := 3) dX4_tokenFrom_53 (by decide) ?_
          refine g_goto (tgt := 58) dX4_tokenFrom_54 (by decide) ?_
          exact g_iret dX4_tokenFrom_58 rfl rfl hX2 hX1 hf
    · rw [if_neg c6] at hf
      refine g_aload_n (j := 0) dX4_tokenFrom_18 rfl rfl ?_
      refine g_iload_n (j := 1) dX4_tokenFrom_19 rfl rfl ?_
      obtain ⟨_, h31, hf⟩ := ob hf
      obtain ⟨σ29, v30, eσ29, hf⟩ := cb_el hf
      refine g_callV_i dX4_tokenFrom_20 (wX4_endOfWord _ eσ29) (okX4_endOfWord _ (by decide) (by decide)) (ckK_el h31) hc8 t_1332 t_1334 s_X4_endOfWord rfl (Nat.le_trans (cat_le _) (Nat.le_of_ble_eq_true rfl)) rfl ?_
      refine g_iload_n (j := 1) dX4_tokenFrom_23 rfl rfl ?_
      refine g_isub dX4_tokenFrom_24 ?_
      refine g_bipush (v := 6) dX4_tokenFrom_25 (by decide) ?_
      refine g_icmp_le (tgt := 34) dX4_tokenFrom_27 (by decide) (fun c32 => ?_) (fun c32 => ?_)
      · rw [if_pos c32] at hf
        refine g_iconst (v := 1) dX4_tokenFrom_34 (by decide) ?_
        exact g_iret dX4_tokenFrom_35 rfl rfl hX2 hX1 hf
      · rw [if_neg c32] at hf
        refine g_iconst (v := 3) dX4_tokenFrom_30 (by decide) ?_
        refine g_goto (tgt := 35) dX4_tokenFrom_31 (by decide) ?_
        exact g_iret dX4_tokenFrom_35 rfl rfl hX2 hX1 hf
  · rw [if_neg c2] at hf
    refine g_iconst (v := 0) dX4_tokenFrom_8 (by decide) ?_
    exact g_iret dX4_tokenFrom_9 rfl rfl hX2 hX1 hf

theorem okX4_tokenFrom (M : Mt) (h1 : 5 + 1 ≤ M.2.2.2.2.1) (h2 : 8 + (2 + 11) + 172 ≤ M.2.2.2.2.2.1) : CallOk M MtX4_tokenFrom yX4_tokenFrom 1 := ⟨t_1327, h1, h2, ⟨by decide, by decide⟩, by decide +kernel, t_10⟩
abbrev MtX4_wordFrom : Mt := (cX4_wordFrom, 4, "ExactlySaid$Reader", (Option.some Jvm.ClassFile.FieldType.int), 3, 126, false)
set_option maxRecDepth 100000 in
set_option maxHeartbeats 4000000 in
theorem bX4_wordFrom_4 {X : Xt} {σf : St} {r : Int32} (hX1 : X.2.2.1 = σf) (hX2 : X.2.2.2 = .inl (some (.int r))) : ∀ (n : Nat) (σ : St) (x0 : Nat) (x1 : Int32) (x2 : Int32) (x3 : Int32), fX4_wordFrom_4 n σ x0 x1 x2 x3 = some (σf, r) → G MtX4_wordFrom X σ 4 [(0, rv x0), (1, .int x1), (2, .int x2), (3, .int x3)] [] := by
  intro n
  induction n with
  | zero => intro σ x0 x1 x2 x3 hf; cases hf
  | succ n ih =>
    intro σ x0 x1 x2 x3 hf
    rw [fX4_wordFrom_4] at hf
    refine g_iload_n (j := 3) dX4_wordFrom_4 rfl rfl ?_
    refine g_iload_n (j := 1) dX4_wordFrom_5 rfl rfl ?_
    refine g_bipush (v := 6) dX4_wordFrom_6 (by decide) ?_
    refine g_iadd dX4_wordFrom_8 ?_
    refine g_icmp_ge (tgt := 42) dX4_wordFrom_9 (by decide) (fun c1 => ?_) (fun c1 => ?_)
    · rw [if_pos c1] at hf
      refine g_iload_n (j := 2) dX4_wordFrom_42 rfl rfl ?_
      exact g_iret dX4_wordFrom_43 rfl rfl hX2 hX1 hf
    · rw [if_neg c1] at hf
      refine g_aload_n (j := 0) dX4_wordFrom_12 rfl rfl ?_
      refine g_iload_n (j := 3) dX4_wordFrom_13 rfl rfl ?_
      obtain ⟨_, h4, hf⟩ := ob hf
      obtain ⟨σ2, v3, eσ2, hf⟩ := cb_el hf
      refine g_callV_i dX4_wordFrom_14 (wX4_isLetter _ eσ2) (okX4_isLetter _ (by decide) (by decide)) (ckK_el h4) hc8 t_1328 t_1330 s_X4_isLetter rfl (Nat.le_trans (cat_le _) (Nat.le_of_ble_eq_true rfl)) rfl ?_
      refine g_if_eq (tgt := 42) dX4_wordFrom_17 (by decide) (fun c5 => ?_) (fun c5 => ?_)
      · rw [if_pos c5] at hf
        refine g_iload_n (j := 2) dX4_wordFrom_42 rfl rfl ?_
        exact g_iret dX4_wordFrom_43 rfl rfl hX2 hX1 hf
      · rw [if_neg c5] at hf
        refine g_iload_n (j := 2) dX4_wordFrom_20 rfl rfl ?_
        refine g_bipush (v := 27) dX4_wordFrom_21 (by decide) ?_
        refine g_imul dX4_wordFrom_23 ?_
        refine g_aload_n (j := 0) dX4_wordFrom_24 rfl rfl ?_
        refine g_iload_n (j := 3) dX4_wordFrom_25 rfl rfl ?_
        obtain ⟨_, h8, hf⟩ := ob hf
        obtain ⟨σ6, v7, eσ6, hf⟩ := cb_el hf
        refine g_callV_i dX4_wordFrom_26 (wX4_byteAt _ eσ6) (okX4_byteAt _ (by decide) (by decide)) (ckK_el h8) hc8 t_1320 t_1322 s_X4_byteAt rfl (Nat.le_trans (cat_le _) (Nat.le_of_ble_eq_true rfl)) rfl ?_
        refine g_iadd dX4_wordFrom_29 ?_
        refine g_bipush (v := 97) dX4_wordFrom_30 (by decide) ?_
        refine g_isub dX4_wordFrom_32 ?_
        refine g_iconst (v := 1) dX4_wordFrom_33 (by decide) ?_
        refine g_iadd dX4_wordFrom_34 ?_
        obtain ⟨v9, ev9, hf⟩ := nm_el hf
        refine g_topI ev9 ?_
        refine g_istore_n (i := 2) (L' := [(2, .int v9), (0, rv x0), (1, .int x1), (3, .int x3)]) dX4_wordFrom_35 rfl (Nat.le_of_ble_eq_true rfl) rfl ?_
        obtain ⟨v10, ev10, hf⟩ := nm_el hf
        refine g_iinc (L' := [(3, .int v10), (2, .int v9), (0, rv x0), (1, .int x1)]) (j := 3) (v := v10) dX4_wordFrom_36 rfl (by rw [ev10]; rfl) (Nat.le_of_ble_eq_true rfl) rfl ?_
        refine g_goto (tgt := 4) dX4_wordFrom_39 (by decide) ?_
        refine g_sub (L' := [(0, rv x0), (1, .int x1), (2, .int v9), (3, .int v10)]) [2, 3, 1, 0] rfl ?_
        exact ih _ _ _ _ _ hf

set_option maxRecDepth 100000 in
set_option maxHeartbeats 4000000 in
theorem wX4_wordFrom (l : Launch) {σ σf : St} {x0 : Nat} {x1 : Int32} {r : Int32} (hf : fX4_wordFrom σ x0 x1 = some (σf, r)) : Con MtX4_wordFrom yX4_wordFrom l σ [rv x0, .int x1] σf (some (.int r)) := by
  refine Con.of (by decide +kernel) rfl (fun h => absurd (show false = true from h) (by decide)) (by simp only [sl_n, sl_r, sl_i, sl_l]; exact Nat.le_of_ble_eq_true rfl) ?_
  rw [show lv_args 0 [rv x0, .int x1] = [(0, rv x0), (1, .int x1)] by simp only [la_n, la_r, la_i, la_l] <;> rfl]
  have hX1 : ((l, σ, σf, .inl (some (.int r))) : Xt).2.2.1 = σf := rfl
  have hX2 : ((l, σ, σf, .inl (some (.int r))) : Xt).2.2.2 = .inl (some (.int r)) := rfl
  unfold fX4_wordFrom at hf
  refine g_iconst (v := 0) dX4_wordFrom_0 (by decide) ?_
  refine g_istore_n (i := 2) (L' := [(2, .int 0), (0, rv x0), (1, .int x1)]) dX4_wordFrom_1 rfl (Nat.le_of_ble_eq_true rfl) rfl ?_
  refine g_iload_n (j := 2) dX4_wordFrom_2 rfl rfl ?_
  refine g_istore_n (i := 3) (L' := [(3, .int x1), (2, .int 0), (0, rv x0), (1, .int x1)]) dX4_wordFrom_3 rfl (Nat.le_of_ble_eq_true rfl) rfl ?_
  refine g_sub (L' := [(0, rv x0), (1, .int x1), (2, .int 0), (3, .int x1)]) [2, 3, 1, 0] rfl ?_
  exact bX4_wordFrom_4 hX1 hX2 FU _ _ _ _ _ hf

theorem okX4_wordFrom (M : Mt) (h1 : 3 + 1 ≤ M.2.2.2.2.1) (h2 : 8 + (4 + 11) + 126 ≤ M.2.2.2.2.2.1) : CallOk M MtX4_wordFrom yX4_wordFrom 1 := ⟨t_1351, h1, h2, ⟨by decide, by decide⟩, by decide +kernel, t_10⟩
abbrev MtX4_endOfToken : Mt := (cX4_endOfToken, 3, "ExactlySaid$Reader", (Option.some Jvm.ClassFile.FieldType.int), 5, 172, false)
set_option maxRecDepth 100000 in
set_option maxHeartbeats 4000000 in
theorem wX4_endOfToken (l : Launch) {σ σf : St} {x0 : Nat} {x1 : Int32} {x2 : Int32} {r : Int32} (hf : fX4_endOfToken σ x0 x1 x2 = some (σf, r)) : Con MtX4_endOfToken yX4_endOfToken l σ [rv x0, .int x1, .int x2] σf (some (.int r)) := by
  refine Con.of (by decide +kernel) rfl (fun h => absurd (show false = true from h) (by decide)) (by simp only [sl_n, sl_r, sl_i, sl_l]; exact Nat.le_of_ble_eq_true rfl) ?_
  rw [show lv_args 0 [rv x0, .int x1, .int x2] = [(0, rv x0), (1, .int x1), (2, .int x2)] by simp only [la_n, la_r, la_i, la_l] <;> rfl]
  have hX1 : ((l, σ, σf, .inl (some (.int r))) : Xt).2.2.1 = σf := rfl
  have hX2 : ((l, σ, σf, .inl (some (.int r))) : Xt).2.2.2 = .inl (some (.int r)) := rfl
  unfold fX4_endOfToken at hf
  refine g_iload_n (j := 2) dX4_endOfToken_0 rfl rfl ?_
  refine g_iconst (v := 1) dX4_endOfToken_1 (by decide) ?_
  refine g_icmp_ne (tgt := 11) dX4_endOfToken_2 (by decide) (fun c1 => ?_) (fun c1 => ?_)
  · rw [if_neg c1] at hf
    refine g_iload_n (j := 2) dX4_endOfToken_11 rfl rfl ?_
    refine g_iconst (v := 2) dX4_endOfToken_12 (by decide) ?_
    refine g_icmp_ne (tgt := 24) dX4_endOfToken_13 (by decide) (fun c2 => ?_) (fun c2 => ?_)
    · rw [if_neg c2] at hf
      refine g_iload_n (j := 1) dX4_endOfToken_24 rfl rfl ?_
      refine g_iconst (v := 1) dX4_endOfToken_25 (by decide) ?_
      refine g_iadd dX4_endOfToken_26 ?_
      exact g_iret dX4_endOfToken_27 rfl rfl hX2 hX1 hf
    · rw [if_pos c2] at hf
      refine g_aload_n (j := 0) dX4_endOfToken_16 rfl rfl ?_
      refine g_iload_n (j := 1) dX4_endOfToken_17 rfl rfl ?_
      obtain ⟨_, h5, hf⟩ := ob hf
      obtain ⟨σ3, v4, eσ3, hf⟩ := cb_el hf
      refine g_callV_i dX4_endOfToken_18 (wX4_endOfNumber _ eσ3) (okX4_endOfNumber _ (by decide) (by decide)) (ckK_el h5) hc8 t_1340 t_1342 s_X4_endOfNumber rfl (Nat.le_trans (cat_le _) (Nat.le_of_ble_eq_true rfl)) rfl ?_
      refine g_goto (tgt := 27) dX4_endOfToken_21 (by decide) ?_
      exact g_iret dX4_endOfToken_27 rfl rfl hX2 hX1 hf
  · rw [if_pos c1] at hf
    refine g_aload_n (j := 0) dX4_endOfToken_5 rfl rfl ?_
    refine g_iload_n (j := 1) dX4_endOfToken_6 rfl rfl ?_
    obtain ⟨_, h8, hf⟩ := ob hf
    obtain ⟨σ6, v7, eσ6, hf⟩ := cb_el hf
    refine g_callV_i dX4_endOfToken_7 (wX4_endOfWord _ eσ6) (okX4_endOfWord _ (by decide) (by decide)) (ckK_el h8) hc8 t_1332 t_1334 s_X4_endOfWord rfl (Nat.le_trans (cat_le _) (Nat.le_of_ble_eq_true rfl)) rfl ?_
    exact g_iret dX4_endOfToken_10 rfl rfl hX2 hX1 hf

theorem okX4_endOfToken (M : Mt) (h1 : 5 + 1 ≤ M.2.2.2.2.1) (h2 : 8 + (3 + 11) + 172 ≤ M.2.2.2.2.2.1) : CallOk M MtX4_endOfToken yX4_endOfToken 2 := ⟨t_1355, h1, h2, ⟨by decide, by decide⟩, by decide +kernel, t_10⟩
abbrev MtX4_findTokens : Mt := (cX4_findTokens, 3, "ExactlySaid$Reader", none, 6, 194, false)
set_option maxRecDepth 100000 in
set_option maxHeartbeats 4000000 in
theorem bX4_findTokens_44 {X : Xt} {σf : St} {r : Unit} (hX1 : X.2.2.1 = σf) (hX2 : X.2.2.2 = .inl (none)) {k9 : St → Nat → Int32 → Int32 → Option (St × Unit)} {k16 : St → Nat → Int32 → Int32 → Option (St × Unit)} (hk9 : ∀ (σ : St) (x0 : Nat) (x1 : Int32) (x2 : Int32), k9 σ x0 x1 x2 = some (σf, r) → G MtX4_findTokens X σ 9 [(0, rv x0), (1, .int x1), (2, .int x2)] []) (hk16 : ∀ (σ : St) (x0 : Nat) (x1 : Int32) (x2 : Int32), k16 σ x0 x1 x2 = some (σf, r) → G MtX4_findTokens X σ 16 [(0, rv x0), (1, .int x1), (2, .int x2)] []) {σ : St} {x0 : Nat} {x1 : Int32} {x2 : Int32} (hf : fX4_findTokens_44 k9 k16 σ x0 x1 x2 = some (σf, r)) : G MtX4_findTokens X σ 44 [(0, rv x0), (1, .int x1), (2, .int x2)] [] := by
  unfold fX4_findTokens_44 at hf
  obtain ⟨v1, ev1, hf⟩ := nm_el hf
  refine g_iinc (L' := [(1, .int v1), (0, rv x0), (2, .int x2)]) (j := 1) (v := v1) dX4_findTokens_44 rfl (by rw [ev1]; rfl) (Nat.le_of_ble_eq_true rfl) (by simp [rv_cat]) ?_
  refine g_goto (tgt := 16) dX4_findTokens_47 (by decide) ?_
  refine g_sub (L' := [(0, rv x0), (1, .int v1), (2, .int x2)]) [1, 0, 2] rfl ?_
  exact hk16 _ _ _ _ hf

set_option maxRecDepth 100000 in
set_option maxHeartbeats 4000000 in
theorem bX4_findTokens_116 {X : Xt} {σf : St} {r : Unit} (hX1 : X.2.2.1 = σf) (hX2 : X.2.2.2 = .inl (none)) {k9 : St → Nat → Int32 → Int32 → Option (St × Unit)} (hk9 : ∀ (σ : St) (x0 : Nat) (x1 : Int32) (x2 : Int32), k9 σ x0 x1 x2 = some (σf, r) → G MtX4_findTokens X σ 9 [(0, rv x0), (1, .int x1), (2, .int x2)] []) {σ : St} {x0 : Nat} {x1 : Int32} {x2 : Int32} (hf : fX4_findTokens_116 k9 σ x0 x1 x2 = some (σf, r)) : G MtX4_findTokens X σ 116 [(0, rv x0), (1, .int x1), (2, .int x2)] [] := by
  unfold fX4_findTokens_116 at hf
  refine g_aload_n (j := 0) dX4_findTokens_116 rfl rfl ?_
  refine g_iload_n (j := 1) dX4_findTokens_117 rfl rfl ?_
  refine g_aload_n (j := 0) dX4_findTokens_118 rfl rfl ?_
  obtain ⟨v1, ev1, hf⟩ := ob hf
  refine g_getF dX4_findTokens_119 ev1 t_220 hin8 hc8 (by decide) rfl ?_
  refine g_iload_n (j := 2) dX4_findTokens_122 rfl rfl ?_
  obtain ⟨v2, ev2, hf⟩ := ob hf
  refine g_iald dX4_findTokens_123 ev2 ?_
  obtain ⟨_, h5, hf⟩ := ob hf
  obtain ⟨σ3, v4, eσ3, hf⟩ := cb_el hf
  refine g_callV_i dX4_findTokens_124 (wX4_endOfToken _ eσ3) (okX4_endOfToken _ (by decide) (by decide)) (ckK_el h5) hc8 t_1352 t_1354 s_X4_endOfToken rfl (Nat.le_trans (cat_le _) (Nat.le_of_ble_eq_true rfl)) rfl ?_
  refine g_istore_n (i := 1) (L' := [(1, .int v4), (0, rv x0), (2, .int x2)]) dX4_findTokens_127 rfl (Nat.le_of_ble_eq_true rfl) (by simp [rv_cat]) ?_
  obtain ⟨v6, ev6, hf⟩ := nm_el hf
  refine g_iinc (L' := [(2, .int v6), (1, .int v4), (0, rv x0)]) (j := 2) (v := v6) dX4_findTokens_128 rfl (by rw [ev6]; rfl) (Nat.le_of_ble_eq_true rfl) rfl ?_
  refine g_goto (tgt := 9) dX4_findTokens_131 (by decide) ?_
  refine g_sub (L' := [(0, rv x0), (1, .int v4), (2, .int v6)]) [2, 1, 0] rfl ?_
  exact hk9 _ _ _ _ hf

set_option maxRecDepth 100000 in
set_option maxHeartbeats 4000000 in
theorem bX4_findTokens_50 {X : Xt} {σf : St} {r : Unit} (hX1 : X.2.2.1 = σf) (hX2 : X.2.2.2 = .inl (none)) {k9 : St → Nat → Int32 → Int32 → Option (St × Unit)} (hk9 : ∀ (σ : St) (x0 : Nat) (x1 : Int32) (x2 : Int32), k9 σ x0 x1 x2 = some (σf, r) → G MtX4_findTokens X σ 9 [(0, rv x0), (1, .int x1), (2, .int x2)] []) {σ : St} {x0 : Nat} {x1 : Int32} {x2 : Int32} (hf : fX4_findTokens_50 k9 σ x0 x1 x2 = some (σf, r)) : G MtX4_findTokens X σ 50 [(0, rv x0), (1, .int x1), (2, .int x2)] [] := by
  unfold fX4_findTokens_50 at hf
  refine g_aload_n (j := 0) dX4_findTokens_50 rfl rfl ?_
  obtain ⟨v1, ev1, hf⟩ := ob hf
  refine g_getF dX4_findTokens_51 ev1 t_221 hin8 hc8 (by decide) rfl ?_
  refine g_iload_n (j := 2) dX4_findTokens_54 rfl rfl ?_
  refine g_iload_n (j := 1) dX4_findTokens_55 rfl rfl ?_
  obtain ⟨σ2, eσ2, hf⟩ := ob hf
  refine g_iast dX4_findTokens_56 eσ2 ?_
  refine g_aload_n (j := 0) dX4_findTokens_57 rfl rfl ?_
  obtain ⟨v3, ev3, hf⟩ := ob hf
  refine g_getF dX4_findTokens_58 ev3 t_220 hin8 hc8 (by decide) rfl ?_
  refine g_iload_n (j := 2) dX4_findTokens_61 rfl rfl ?_
  refine g_aload_n (j := 0) dX4_findTokens_62 rfl rfl ?_
  refine g_iload_n (j := 1) dX4_findTokens_63 rfl rfl ?_
  obtain ⟨_, h6, hf⟩ := ob hf
  obtain ⟨σ4, v5, eσ4, hf⟩ := cb_el hf
  refine g_callV_i dX4_findTokens_64 (wX4_tokenFrom _ eσ4) (okX4_tokenFrom _ (by decide) (by decide)) (ckK_el h6) hc8 t_1324 t_1326 s_X4_tokenFrom rfl (Nat.le_trans (cat_le _) (Nat.le_of_ble_eq_true rfl)) rfl ?_
  obtain ⟨σ7, eσ7, hf⟩ := ob hf
  refine g_iast dX4_findTokens_67 eσ7 ?_
  refine g_aload_n (j := 0) dX4_findTokens_68 rfl rfl ?_
  refine g_iload_n (j := 2) dX4_findTokens_69 rfl rfl ?_
  refine g_iconst (v := 1) dX4_findTokens_70 (by decide) ?_
  refine g_iadd dX4_findTokens_71 ?_
  obtain ⟨σ8, eσ8, hf⟩ := ob hf
  refine g_putI dX4_findTokens_72 eσ8 (Or.inl t_223) hin8 hc8 (by decide) hty8 hnm8 (Or.inl rfl) rfl rfl rfl ?_
  refine g_aload_n (j := 0) dX4_findTokens_75 rfl rfl ?_
  obtain ⟨v9, ev9, hf⟩ := ob hf
  refine g_getF dX4_findTokens_76 ev9 t_220 hin8 hc8 (by decide) rfl ?_
  refine g_iload_n (j := 2) dX4_findTokens_79 rfl rfl ?_
  obtain ⟨v10, ev10, hf⟩ := ob hf
  refine g_iald dX4_findTokens_80 ev10 ?_
  refine g_if_eq (tgt := 94) dX4_findTokens_81 (by decide) (fun c11 => ?_) (fun c11 => ?_)
  · rw [if_pos c11] at hf
    exact g_vret dX4_findTokens_94 rfl hX2 hX1 hf
  · rw [if_neg c11] at hf
    refine g_aload_n (j := 0) dX4_findTokens_84 rfl rfl ?_
    obtain ⟨v12, ev12, hf⟩ := ob hf
    refine g_getF dX4_findTokens_85 ev12 t_220 hin8 hc8 (by decide) rfl ?_
    refine g_iload_n (j := 2) dX4_findTokens_88 rfl rfl ?_
    obtain ⟨v13, ev13, hf⟩ := ob hf
    refine g_iald dX4_findTokens_89 ev13 ?_
    refine g_iconst (v := 3) dX4_findTokens_90 (by decide) ?_
    refine g_icmp_ne (tgt := 95) dX4_findTokens_91 (by decide) (fun c14 => ?_) (fun c14 => ?_)
    · rw [if_neg c14] at hf
      refine g_aload_n (j := 0) dX4_findTokens_95 rfl rfl ?_
      obtain ⟨v15, ev15, hf⟩ := ob hf
      refine g_getF dX4_findTokens_96 ev15 t_220 hin8 hc8 (by decide) rfl ?_
      refine g_iload_n (j := 2) dX4_findTokens_99 rfl rfl ?_
      obtain ⟨v16, ev16, hf⟩ := ob hf
      refine g_iald dX4_findTokens_100 ev16 ?_
      refine g_iconst (v := 1) dX4_findTokens_101 (by decide) ?_
      refine g_icmp_ne (tgt := 116) dX4_findTokens_102 (by decide) (fun c17 => ?_) (fun c17 => ?_)
      · rw [if_neg c17] at hf
        exact bX4_findTokens_116 hX1 hX2 hk9 hf
      · rw [if_pos c17] at hf
        refine g_aload_n (j := 0) dX4_findTokens_105 rfl rfl ?_
        obtain ⟨v18, ev18, hf⟩ := ob hf
        refine g_getF dX4_findTokens_106 ev18 t_222 hin8 hc8 (by decide) rfl ?_
        refine g_iload_n (j := 2) dX4_findTokens_109 rfl rfl ?_
        refine g_aload_n (j := 0) dX4_findTokens_110 rfl rfl ?_
        refine g_iload_n (j := 1) dX4_findTokens_111 rfl rfl ?_
        obtain ⟨_, h21, hf⟩ := ob hf
        obtain ⟨σ19, v20, eσ19, hf⟩ := cb_el hf
        refine g_callV_i dX4_findTokens_112 (wX4_wordFrom _ eσ19) (okX4_wordFrom _ (by decide) (by decide)) (ckK_el h21) hc8 t_1348 t_1350 s_X4_wordFrom rfl (Nat.le_trans (cat_le _) (Nat.le_of_ble_eq_true rfl)) rfl ?_
        obtain ⟨σ22, eσ22, hf⟩ := ob hf
        refine g_iast dX4_findTokens_115 eσ22 ?_
        exact bX4_findTokens_116 hX1 hX2 hk9 hf
    · rw [if_pos c14] at hf
      exact g_vret dX4_findTokens_94 rfl hX2 hX1 hf

set_option maxRecDepth 100000 in
set_option maxHeartbeats 4000000 in
theorem bX4_findTokens_16 {X : Xt} {σf : St} {r : Unit} (hX1 : X.2.2.1 = σf) (hX2 : X.2.2.2 = .inl (none)) {k9 : St → Nat → Int32 → Int32 → Option (St × Unit)} (hk9 : ∀ (σ : St) (x0 : Nat) (x1 : Int32) (x2 : Int32), k9 σ x0 x1 x2 = some (σf, r) → G MtX4_findTokens X σ 9 [(0, rv x0), (1, .int x1), (2, .int x2)] []) : ∀ (n : Nat) (σ : St) (x0 : Nat) (x1 : Int32) (x2 : Int32), fX4_findTokens_16 k9 n σ x0 x1 x2 = some (σf, r) → G MtX4_findTokens X σ 16 [(0, rv x0), (1, .int x1), (2, .int x2)] [] := by
  intro n
  induction n with
  | zero => intro σ x0 x1 x2 hf; cases hf
  | succ n ih =>
    intro σ x0 x1 x2 hf
    rw [fX4_findTokens_16] at hf
    refine g_iload_n (j := 1) dX4_findTokens_16 rfl rfl ?_
    refine g_aload_n (j := 0) dX4_findTokens_17 rfl rfl ?_
    obtain ⟨v1, ev1, hf⟩ := ob hf
    refine g_getI dX4_findTokens_18 ev1 t_219 hin8 hc8 (by decide) rfl ?_
    refine g_icmp_ge (tgt := 50) dX4_findTokens_21 (by decide) (fun c2 => ?_) (fun c2 => ?_)
    · rw [if_pos c2] at hf
      exact bX4_findTokens_50 hX1 hX2 hk9 hf
    · rw [if_neg c2] at hf
      refine g_aload_n (j := 0) dX4_findTokens_24 rfl rfl ?_
      refine g_iload_n (j := 1) dX4_findTokens_25 rfl rfl ?_
      obtain ⟨_, h5, hf⟩ := ob hf
      obtain ⟨σ3, v4, eσ3, hf⟩ := cb_el hf
      refine g_callV_i dX4_findTokens_26 (wX4_byteAt _ eσ3) (okX4_byteAt _ (by decide) (by decide)) (ckK_el h5) hc8 t_1320 t_1322 s_X4_byteAt rfl (Nat.le_trans (cat_le _) (Nat.le_of_ble_eq_true rfl)) rfl ?_
      refine g_bipush (v := 32) dX4_findTokens_29 (by decide) ?_
      refine g_icmp_eq (tgt := 44) dX4_findTokens_31 (by decide) (fun c6 => ?_) (fun c6 => ?_)
      · rw [if_pos c6] at hf
        exact bX4_findTokens_44 hX1 hX2 hk9 (fun σ x0 x1 x2 hf => ih σ x0 x1 x2 hf) hf
      · rw [if_neg c6] at hf
        refine g_aload_n (j := 0) dX4_findTokens_34 rfl rfl ?_
        refine g_iload_n (j := 1) dX4_findTokens_35 rfl rfl ?_
        obtain ⟨_, h9, hf⟩ := ob hf
        obtain ⟨σ7, v8, eσ7, hf⟩ := cb_el hf
        refine g_callV_i dX4_findTokens_36 (wX4_byteAt _ eσ7) (okX4_byteAt _ (by decide) (by decide)) (ckK_el h9) hc8 t_1320 t_1322 s_X4_byteAt rfl (Nat.le_trans (cat_le _) (Nat.le_of_ble_eq_true rfl)) rfl ?_
        refine g_bipush (v := 10) dX4_findTokens_39 (by decide) ?_
        refine g_icmp_ne (tgt := 50) dX4_findTokens_41 (by decide) (fun c10 => ?_) (fun c10 => ?_)
        · rw [if_neg c10] at hf
          exact bX4_findTokens_50 hX1 hX2 hk9 hf
        · rw [if_pos c10] at hf
          exact bX4_findTokens_44 hX1 hX2 hk9 (fun σ x0 x1 x2 hf => ih σ x0 x1 x2 hf) hf

set_option maxRecDepth 100000 in
set_option maxHeartbeats 4000000 in
theorem bX4_findTokens_9 {X : Xt} {σf : St} {r : Unit} (hX1 : X.2.2.1 = σf) (hX2 : X.2.2.2 = .inl (none)) : ∀ (n : Nat) (σ : St) (x0 : Nat) (x1 : Int32) (x2 : Int32), fX4_findTokens_9 n σ x0 x1 x2 = some (σf, r) → G MtX4_findTokens X σ 9 [(0, rv x0), (1, .int x1), (2, .int x2)] [] := by
  intro n
  induction n with
  | zero => intro σ x0 x1 x2 hf; cases hf
  | succ n ih =>
    intro σ x0 x1 x2 hf
    rw [fX4_findTokens_9] at hf
    refine g_iload_n (j := 2) dX4_findTokens_9 rfl rfl ?_
    refine g_sipush (v := 200) dX4_findTokens_10 (by decide) ?_
    refine g_icmp_gt (tgt := 134) dX4_findTokens_13 (by decide) (fun c1 => ?_) (fun c1 => ?_)
    · rw [if_pos c1] at hf
      exact g_vret dX4_findTokens_134 rfl hX2 hX1 hf
    · rw [if_neg c1] at hf
      exact bX4_findTokens_16 hX1 hX2 (fun σ x0 x1 x2 hf => ih σ x0 x1 x2 hf) FU _ _ _ _ hf

set_option maxRecDepth 100000 in
set_option maxHeartbeats 4000000 in
theorem wX4_findTokens (l : Launch) {σ σf : St} {x0 : Nat} {r : Unit} (hf : fX4_findTokens σ x0 = some (σf, r)) : Con MtX4_findTokens yX4_findTokens l σ [rv x0] σf (none) := by
  refine Con.of (by decide +kernel) rfl (fun h => absurd (show false = true from h) (by decide)) (by simp only [sl_n, sl_r, sl_i, sl_l]; exact Nat.le_of_ble_eq_true rfl) ?_
  rw [show lv_args 0 [rv x0] = [(0, rv x0)] by simp only [la_n, la_r, la_i, la_l] <;> rfl]
  have hX1 : ((l, σ, σf, .inl (none)) : Xt).2.2.1 = σf := rfl
  have hX2 : ((l, σ, σf, .inl (none)) : Xt).2.2.2 = .inl (none) := rfl
  unfold fX4_findTokens at hf
  refine g_aload_n (j := 0) dX4_findTokens_0 rfl rfl ?_
  refine g_iconst (v := 0) dX4_findTokens_1 (by decide) ?_
  obtain ⟨σ1, eσ1, hf⟩ := ob hf
  refine g_putI dX4_findTokens_2 eσ1 (Or.inl t_223) hin8 hc8 (by decide) hty8 hnm8 (Or.inl rfl) rfl rfl rfl ?_
  refine g_iconst (v := 0) dX4_findTokens_5 (by decide) ?_
  refine g_istore_n (i := 1) (L' := [(1, .int 0), (0, rv x0)]) dX4_findTokens_6 rfl (Nat.le_of_ble_eq_true rfl) (by simp [rv_cat]) ?_
  refine g_iconst (v := 0) dX4_findTokens_7 (by decide) ?_
  refine g_istore_n (i := 2) (L' := [(2, .int 0), (1, .int 0), (0, rv x0)]) dX4_findTokens_8 rfl (Nat.le_of_ble_eq_true rfl) rfl ?_
  refine g_sub (L' := [(0, rv x0), (1, .int 0), (2, .int 0)]) [2, 1, 0] rfl ?_
  exact bX4_findTokens_9 hX1 hX2 FU _ _ _ _ hf

theorem okX4_findTokens (M : Mt) (h1 : 6 + 1 ≤ M.2.2.2.2.1) (h2 : 8 + (3 + 11) + 194 ≤ M.2.2.2.2.2.1) : CallOk M MtX4_findTokens yX4_findTokens 0 := ⟨t_1319, h1, h2, ⟨by decide, by decide⟩, by decide +kernel, t_10⟩
abbrev MtX4_tokenAt : Mt := (cX4_tokenAt, 2, "ExactlySaid$Reader", (Option.some Jvm.ClassFile.FieldType.int), 1, 84, false)
set_option maxRecDepth 100000 in
set_option maxHeartbeats 4000000 in
theorem wX4_tokenAt (l : Launch) {σ σf : St} {x0 : Nat} {x1 : Int32} {r : Int32} (hf : fX4_tokenAt σ x0 x1 = some (σf, r)) : Con MtX4_tokenAt yX4_tokenAt l σ [rv x0, .int x1] σf (some (.int r)) := by
  refine Con.of (by decide +kernel) rfl (fun h => absurd (show false = true from h) (by decide)) (by simp only [sl_n, sl_r, sl_i, sl_l]; exact Nat.le_of_ble_eq_true rfl) ?_
  rw [show lv_args 0 [rv x0, .int x1] = [(0, rv x0), (1, .int x1)] by simp only [la_n, la_r, la_i, la_l] <;> rfl]
  have hX1 : ((l, σ, σf, .inl (some (.int r))) : Xt).2.2.1 = σf := rfl
  have hX2 : ((l, σ, σf, .inl (some (.int r))) : Xt).2.2.2 = .inl (some (.int r)) := rfl
  unfold fX4_tokenAt at hf
  refine g_iload_n (j := 1) dX4_tokenAt_0 rfl rfl ?_
  refine g_if_lt (tgt := 21) dX4_tokenAt_1 (by decide) (fun c1 => ?_) (fun c1 => ?_)
  · rw [if_pos c1] at hf
    refine g_iconst (v := 0) dX4_tokenAt_21 (by decide) ?_
    exact g_iret dX4_tokenAt_22 rfl rfl hX2 hX1 hf
  · rw [if_neg c1] at hf
    refine g_iload_n (j := 1) dX4_tokenAt_4 rfl rfl ?_
    refine g_aload_n (j := 0) dX4_tokenAt_5 rfl rfl ?_
    obtain ⟨v2, ev2, hf⟩ := ob hf
    refine g_getI dX4_tokenAt_6 ev2 t_223 hin8 hc8 (by decide) rfl ?_
    refine g_icmp_ge (tgt := 21) dX4_tokenAt_9 (by decide) (fun c3 => ?_) (fun c3 => ?_)
    · rw [if_pos c3] at hf
      refine g_iconst (v := 0) dX4_tokenAt_21 (by decide) ?_
      exact g_iret dX4_tokenAt_22 rfl rfl hX2 hX1 hf
    · rw [if_neg c3] at hf
      refine g_aload_n (j := 0) dX4_tokenAt_12 rfl rfl ?_
      obtain ⟨v4, ev4, hf⟩ := ob hf
      refine g_getF dX4_tokenAt_13 ev4 t_220 hin8 hc8 (by decide) rfl ?_
      refine g_iload_n (j := 1) dX4_tokenAt_16 rfl rfl ?_
      obtain ⟨v5, ev5, hf⟩ := ob hf
      refine g_iald dX4_tokenAt_17 ev5 ?_
      refine g_goto (tgt := 22) dX4_tokenAt_18 (by decide) ?_
      exact g_iret dX4_tokenAt_22 rfl rfl hX2 hX1 hf

theorem okX4_tokenAt (M : Mt) (h1 : 1 + 1 ≤ M.2.2.2.2.1) (h2 : 8 + (2 + 11) + 84 ≤ M.2.2.2.2.2.1) : CallOk M MtX4_tokenAt yX4_tokenAt 1 := ⟨t_1367, h1, h2, ⟨by decide, by decide⟩, by decide +kernel, t_10⟩
abbrev MtX4_formAhead : Mt := (cX4_formAhead, 3, "ExactlySaid$Reader", (Option.some Jvm.ClassFile.FieldType.int), 2, 105, false)
set_option maxRecDepth 100000 in
set_option maxHeartbeats 4000000 in
theorem bX4_formAhead_108 {X : Xt} {σf : St} {r : Int32} (hX1 : X.2.2.1 = σf) (hX2 : X.2.2.2 = .inl (some (.int r))) {σ : St} {y0 : Int32} (hf : fX4_formAhead_108 σ y0 = some (σf, r)) : G MtX4_formAhead X σ 108 [] [.int y0] := by
  unfold fX4_formAhead_108 at hf
  refine g_istore_n (i := 2) (L' := [(2, .int y0)]) dX4_formAhead_108 rfl (Nat.le_of_ble_eq_true rfl) rfl ?_
  refine g_iload_n (j := 0) dX4_formAhead_109 rfl rfl ?_
  refine g_if_eq (tgt := 117) dX4_formAhead_110 (by decide) (fun c1 => ?_) (fun c1 => ?_)
  · rw [if_pos c1] at hf
    refine g_iconst (v := 0) dX4_formAhead_117 (by decide) ?_
    exact g_iret dX4_formAhead_118 rfl rfl hX2 hX1 hf
  · rw [if_neg c1] at hf
    refine g_iconst (v := 2) dX4_formAhead_113 (by decide) ?_
    refine g_goto (tgt := 118) dX4_formAhead_114 (by decide) ?_
    exact g_iret dX4_formAhead_118 rfl rfl hX2 hX1 hf

set_option maxRecDepth 100000 in
set_option maxHeartbeats 4000000 in
theorem bX4_formAhead_107 {X : Xt} {σf : St} {r : Int32} (hX1 : X.2.2.1 = σf) (hX2 : X.2.2.2 = .inl (some (.int r))) {σ : St} (hf : fX4_formAhead_107 σ  = some (σf, r)) : G MtX4_formAhead X σ 107 [] [] := by
  unfold fX4_formAhead_107 at hf
  refine g_iconst (v := 0) dX4_formAhead_107 (by decide) ?_
  exact bX4_formAhead_108 hX1 hX2 hf

set_option maxRecDepth 100000 in
set_option maxHeartbeats 4000000 in
theorem bX4_formAhead_60 {X : Xt} {σf : St} {r : Int32} (hX1 : X.2.2.1 = σf) (hX2 : X.2.2.2 = .inl (some (.int r))) {σ : St} {x0 : Nat} {x1 : Int32} (hf : fX4_formAhead_60 σ x0 x1 = some (σf, r)) : G MtX4_formAhead X σ 60 [(0, rv x0), (1, .int x1)] [] := by
  unfold fX4_formAhead_60 at hf
  refine g_aload_n (j := 0) dX4_formAhead_60 rfl rfl ?_
  refine g_iconst (v := 1) dX4_formAhead_61 (by decide) ?_
  obtain ⟨_, h3, hf⟩ := ob hf
  obtain ⟨σ1, v2, eσ1, hf⟩ := cb_el hf
  refine g_callV_i dX4_formAhead_62 (wX4_tokenAt _ eσ1) (okX4_tokenAt _ (by decide) (by decide)) (ckK_el h3) hc8 t_1364 t_1366 s_X4_tokenAt rfl (Nat.le_trans (cat_le _) (Nat.le_of_ble_eq_true rfl)) rfl ?_
  refine g_bipush (v := 40) dX4_formAhead_65 (by decide) ?_
  refine g_icmp_ne (tgt := 107) dX4_formAhead_67 (by decide) (fun c4 => ?_) (fun c4 => ?_)
  · rw [if_neg c4] at hf
    refine g_sub (L' := []) [] rfl ?_
    exact bX4_formAhead_107 hX1 hX2 hf
  · rw [if_pos c4] at hf
    refine g_aload_n (j := 0) dX4_formAhead_70 rfl rfl ?_
    refine g_iload_n (j := 1) dX4_formAhead_71 rfl rfl ?_
    obtain ⟨_, h7, hf⟩ := ob hf
    obtain ⟨σ5, v6, eσ5, hf⟩ := cb_el hf
    refine g_callV_i dX4_formAhead_72 (wX4_tokenAt _ eσ5) (okX4_tokenAt _ (by decide) (by decide)) (ckK_el h7) hc8 t_1364 t_1366 s_X4_tokenAt rfl (Nat.le_trans (cat_le _) (Nat.le_of_ble_eq_true rfl)) rfl ?_
    refine g_iconst (v := 1) dX4_formAhead_75 (by decide) ?_
    refine g_icmp_ne (tgt := 107) dX4_formAhead_76 (by decide) (fun c8 => ?_) (fun c8 => ?_)
    · rw [if_neg c8] at hf
      refine g_sub (L' := []) [] rfl ?_
      exact bX4_formAhead_107 hX1 hX2 hf
    · rw [if_pos c8] at hf
      refine g_aload_n (j := 0) dX4_formAhead_79 rfl rfl ?_
      refine g_iload_n (j := 1) dX4_formAhead_80 rfl rfl ?_
      refine g_iconst (v := 1) dX4_formAhead_81 (by decide) ?_
      refine g_iadd dX4_formAhead_82 ?_
      obtain ⟨_, h11, hf⟩ := ob hf
      obtain ⟨σ9, v10, eσ9, hf⟩ := cb_el hf
      refine g_callV_i dX4_formAhead_83 (wX4_tokenAt _ eσ9) (okX4_tokenAt _ (by decide) (by decide)) (ckK_el h11) hc8 t_1364 t_1366 s_X4_tokenAt rfl (Nat.le_trans (cat_le _) (Nat.le_of_ble_eq_true rfl)) rfl ?_
      refine g_bipush (v := 41) dX4_formAhead_86 (by decide) ?_
      refine g_icmp_ne (tgt := 107) dX4_formAhead_88 (by decide) (fun c12 => ?_) (fun c12 => ?_)
      · rw [if_neg c12] at hf
        refine g_sub (L' := []) [] rfl ?_
        exact bX4_formAhead_107 hX1 hX2 hf
      · rw [if_pos c12] at hf
        refine g_aload_n (j := 0) dX4_formAhead_91 rfl rfl ?_
        refine g_iload_n (j := 1) dX4_formAhead_92 rfl rfl ?_
        refine g_iconst (v := 2) dX4_formAhead_93 (by decide) ?_
        refine g_iadd dX4_formAhead_94 ?_
        obtain ⟨_, h15, hf⟩ := ob hf
        obtain ⟨σ13, v14, eσ13, hf⟩ := cb_el hf
        refine g_callV_i dX4_formAhead_95 (wX4_tokenAt _ eσ13) (okX4_tokenAt _ (by decide) (by decide)) (ckK_el h15) hc8 t_1364 t_1366 s_X4_tokenAt rfl (Nat.le_trans (cat_le _) (Nat.le_of_ble_eq_true rfl)) rfl ?_
        refine g_bipush (v := 61) dX4_formAhead_98 (by decide) ?_
        refine g_icmp_ne (tgt := 107) dX4_formAhead_100 (by decide) (fun c16 => ?_) (fun c16 => ?_)
        · rw [if_neg c16] at hf
          refine g_sub (L' := []) [] rfl ?_
          exact bX4_formAhead_107 hX1 hX2 hf
        · rw [if_pos c16] at hf
          refine g_iconst (v := 1) dX4_formAhead_103 (by decide) ?_
          refine g_goto (tgt := 108) dX4_formAhead_104 (by decide) ?_
          refine g_sub (L' := []) [] rfl ?_
          exact bX4_formAhead_108 hX1 hX2 hf

set_option maxRecDepth 100000 in
set_option maxHeartbeats 4000000 in
theorem bX4_formAhead_25 {X : Xt} {σf : St} {r : Int32} (hX1 : X.2.2.1 = σf) (hX2 : X.2.2.2 = .inl (some (.int r))) : ∀ (n : Nat) (σ : St) (x0 : Nat) (x1 : Int32), fX4_formAhead_25 n σ x0 x1 = some (σf, r) → G MtX4_formAhead X σ 25 [(0, rv x0), (1, .int x1)] [] := by
  intro n
  induction n with
  | zero => intro σ x0 x1 hf; cases hf
  | succ n ih =>
    intro σ x0 x1 hf
    rw [fX4_formAhead_25] at hf
    refine g_iload_n (j := 1) dX4_formAhead_25 rfl rfl ?_
    refine g_aload_n (j := 0) dX4_formAhead_26 rfl rfl ?_
    obtain ⟨v1, ev1, hf⟩ := ob hf
    refine g_getI dX4_formAhead_27 ev1 t_223 hin8 hc8 (by decide) rfl ?_
    refine g_icmp_ge (tgt := 60) dX4_formAhead_30 (by decide) (fun c2 => ?_) (fun c2 => ?_)
    · rw [if_pos c2] at hf
      exact bX4_formAhead_60 hX1 hX2 hf
    · rw [if_neg c2] at hf
      refine g_aload_n (j := 0) dX4_formAhead_33 rfl rfl ?_
      refine g_iload_n (j := 1) dX4_formAhead_34 rfl rfl ?_
      obtain ⟨_, h5, hf⟩ := ob hf
      obtain ⟨σ3, v4, eσ3, hf⟩ := cb_el hf
      refine g_callV_i dX4_formAhead_35 (wX4_tokenAt _ eσ3) (okX4_tokenAt _ (by decide) (by decide)) (ckK_el h5) hc8 t_1364 t_1366 s_X4_tokenAt rfl (Nat.le_trans (cat_le _) (Nat.le_of_ble_eq_true rfl)) rfl ?_
      refine g_iconst (v := 1) dX4_formAhead_38 (by decide) ?_
      refine g_icmp_ne (tgt := 60) dX4_formAhead_39 (by decide) (fun c6 => ?_) (fun c6 => ?_)
      · rw [if_neg c6] at hf
        exact bX4_formAhead_60 hX1 hX2 hf
      · rw [if_pos c6] at hf
        refine g_aload_n (j := 0) dX4_formAhead_42 rfl rfl ?_
        refine g_iload_n (j := 1) dX4_formAhead_43 rfl rfl ?_
        refine g_iconst (v := 1) dX4_formAhead_44 (by decide) ?_
        refine g_iadd dX4_formAhead_45 ?_
        obtain ⟨_, h9, hf⟩ := ob hf
        obtain ⟨σ7, v8, eσ7, hf⟩ := cb_el hf
        refine g_callV_i dX4_formAhead_46 (wX4_tokenAt _ eσ7) (okX4_tokenAt _ (by decide) (by decide)) (ckK_el h9) hc8 t_1364 t_1366 s_X4_tokenAt rfl (Nat.le_trans (cat_le _) (Nat.le_of_ble_eq_true rfl)) rfl ?_
        refine g_bipush (v := 44) dX4_formAhead_49 (by decide) ?_
        refine g_icmp_ne (tgt := 60) dX4_formAhead_51 (by decide) (fun c10 => ?_) (fun c10 => ?_)
        · rw [if_neg c10] at hf
          exact bX4_formAhead_60 hX1 hX2 hf
        · rw [if_pos c10] at hf
          obtain ⟨v11, ev11, hf⟩ := nm_el hf
          refine g_iinc (L' := [(1, .int v11), (0, rv x0)]) (j := 1) (v := v11) dX4_formAhead_54 rfl (by rw [ev11]; rfl) (Nat.le_of_ble_eq_true rfl) (by simp [rv_cat]) ?_
          refine g_goto (tgt := 25) dX4_formAhead_57 (by decide) ?_
          refine g_sub (L' := [(0, rv x0), (1, .int v11)]) [1, 0] rfl ?_
          exact ih _ _ _ hf

set_option maxRecDepth 100000 in
set_option maxHeartbeats 4000000 in
theorem wX4_formAhead (l : Launch) {σ σf : St} {x0 : Nat} {r : Int32} (hf : fX4_formAhead σ x0 = some (σf, r)) : Con MtX4_formAhead yX4_formAhead l σ [rv x0] σf (some (.int r)) := by
  refine Con.of (by decide +kernel) rfl (fun h => absurd (show false = true from h) (by decide)) (by simp only [sl_n, sl_r, sl_i, sl_l]; exact Nat.le_of_ble_eq_true rfl) ?_
  rw [show lv_args 0 [rv x0] = [(0, rv x0)] by simp only [la_n, la_r, la_i, la_l] <;> rfl]
  have hX1 : ((l, σ, σf, .inl (some (.int r))) : Xt).2.2.1 = σf := rfl
  have hX2 : ((l, σ, σf, .inl (some (.int r))) : Xt).2.2.2 = .inl (some (.int r)) := rfl
  unfold fX4_formAhead at hf
  refine g_aload_n (j := 0) dX4_formAhead_0 rfl rfl ?_
  refine g_iconst (v := 0) dX4_formAhead_1 (by decide) ?_
  obtain ⟨_, h3, hf⟩ := ob hf
  obtain ⟨σ1, v2, eσ1, hf⟩ := cb_el hf
  refine g_callV_i dX4_formAhead_2 (wX4_tokenAt _ eσ1) (okX4_tokenAt _ (by decide) (by decide)) (ckK_el h3) hc8 t_1364 t_1366 s_X4_tokenAt rfl (Nat.le_trans (cat_le _) (Nat.le_of_ble_eq_true rfl)) rfl ?_
  refine g_iconst (v := 1) dX4_formAhead_5 (by decide) ?_
  refine g_icmp_eq (tgt := 11) dX4_formAhead_6 (by decide) (fun c4 => ?_) (fun c4 => ?_)
  · rw [if_pos c4] at hf
    refine g_aload_n (j := 0) dX4_formAhead_11 rfl rfl ?_
    refine g_iconst (v := 1) dX4_formAhead_12 (by decide) ?_
    obtain ⟨_, h7, hf⟩ := ob hf
    obtain ⟨σ5, v6, eσ5, hf⟩ := cb_el hf
    refine g_callV_i dX4_formAhead_13 (wX4_tokenAt _ eσ5) (okX4_tokenAt _ (by decide) (by decide)) (ckK_el h7) hc8 t_1364 t_1366 s_X4_tokenAt rfl (Nat.le_trans (cat_le _) (Nat.le_of_ble_eq_true rfl)) rfl ?_
    refine g_bipush (v := 61) dX4_formAhead_16 (by decide) ?_
    refine g_icmp_ne (tgt := 23) dX4_formAhead_18 (by decide) (fun c8 => ?_) (fun c8 => ?_)
    · rw [if_neg c8] at hf
      refine g_iconst (v := 2) dX4_formAhead_23 (by decide) ?_
      refine g_istore_n (i := 1) (L' := [(1, .int 2), (0, rv x0)]) dX4_formAhead_24 rfl (Nat.le_of_ble_eq_true rfl) (by simp [rv_cat]) ?_
      refine g_sub (L' := [(0, rv x0), (1, .int 2)]) [1, 0] rfl ?_
      exact bX4_formAhead_25 hX1 hX2 FU _ _ _ hf
    · rw [if_pos c8] at hf
      refine g_iconst (v := 1) dX4_formAhead_21 (by decide) ?_
      exact g_iret dX4_formAhead_22 rfl rfl hX2 hX1 hf
  · rw [if_neg c4] at hf
    refine g_iconst (v := 0) dX4_formAhead_9 (by decide) ?_
    exact g_iret dX4_formAhead_10 rfl rfl hX2 hX1 hf

theorem okX4_formAhead (M : Mt) (h1 : 2 + 1 ≤ M.2.2.2.2.1) (h2 : 8 + (3 + 11) + 105 ≤ M.2.2.2.2.2.1) : CallOk M MtX4_formAhead yX4_formAhead 0 := ⟨t_1363, h1, h2, ⟨by decide, by decide⟩, by decide +kernel, t_10⟩
abbrev MtX4_wordAt : Mt := (cX4_wordAt, 2, "ExactlySaid$Reader", (Option.some Jvm.ClassFile.FieldType.int), 1, 84, false)
set_option maxRecDepth 100000 in
set_option maxHeartbeats 4000000 in
theorem wX4_wordAt (l : Launch) {σ σf : St} {x0 : Nat} {x1 : Int32} {r : Int32} (hf : fX4_wordAt σ x0 x1 = some (σf, r)) : Con MtX4_wordAt yX4_wordAt l σ [rv x0, .int x1] σf (some (.int r)) := by
  refine Con.of (by decide +kernel) rfl (fun h => absurd (show false = true from h) (by decide)) (by simp only [sl_n, sl_r, sl_i, sl_l]; exact Nat.le_of_ble_eq_true rfl) ?_
  rw [show lv_args 0 [rv x0, .int x1] = [(0, rv x0), (1, .int x1)] by simp only [la_n, la_r, la_i, la_l] <;> rfl]
  have hX1 : ((l, σ, σf, .inl (some (.int r))) : Xt).2.2.1 = σf := rfl
  have hX2 : ((l, σ, σf, .inl (some (.int r))) : Xt).2.2.2 = .inl (some (.int r)) := rfl
  unfold fX4_wordAt at hf
  refine g_iload_n (j := 1) dX4_wordAt_0 rfl rfl ?_
  refine g_if_lt (tgt := 21) dX4_wordAt_1 (by decide) (fun c1 => ?_) (fun c1 => ?_)
  · rw [if_pos c1] at hf
    refine g_iconst (v := 0) dX4_wordAt_21 (by decide) ?_
    exact g_iret dX4_wordAt_22 rfl rfl hX2 hX1 hf
  · rw [if_neg c1] at hf
    refine g_iload_n (j := 1) dX4_wordAt_4 rfl rfl ?_
    refine g_aload_n (j := 0) dX4_wordAt_5 rfl rfl ?_
    obtain ⟨v2, ev2, hf⟩ := ob hf
    refine g_getI dX4_wordAt_6 ev2 t_223 hin8 hc8 (by decide) rfl ?_
    refine g_icmp_ge (tgt := 21) dX4_wordAt_9 (by decide) (fun c3 => ?_) (fun c3 => ?_)
    · rw [if_pos c3] at hf
      refine g_iconst (v := 0) dX4_wordAt_21 (by decide) ?_
      exact g_iret dX4_wordAt_22 rfl rfl hX2 hX1 hf
    · rw [if_neg c3] at hf
      refine g_aload_n (j := 0) dX4_wordAt_12 rfl rfl ?_
      obtain ⟨v4, ev4, hf⟩ := ob hf
      refine g_getF dX4_wordAt_13 ev4 t_222 hin8 hc8 (by decide) rfl ?_
      refine g_iload_n (j := 1) dX4_wordAt_16 rfl rfl ?_
      obtain ⟨v5, ev5, hf⟩ := ob hf
      refine g_iald dX4_wordAt_17 ev5 ?_
      refine g_goto (tgt := 22) dX4_wordAt_18 (by decide) ?_
      exact g_iret dX4_wordAt_22 rfl rfl hX2 hX1 hf

theorem okX4_wordAt (M : Mt) (h1 : 1 + 1 ≤ M.2.2.2.2.1) (h2 : 8 + (2 + 11) + 84 ≤ M.2.2.2.2.2.1) : CallOk M MtX4_wordAt yX4_wordAt 1 := ⟨t_1371, h1, h2, ⟨by decide, by decide⟩, by decide +kernel, t_10⟩
abbrev MtX4_startAt : Mt := (cX4_startAt, 2, "ExactlySaid$Reader", (Option.some Jvm.ClassFile.FieldType.int), 1, 84, false)
set_option maxRecDepth 100000 in
set_option maxHeartbeats 4000000 in
theorem bX4_startAt_21 {X : Xt} {σf : St} {r : Int32} (hX1 : X.2.2.1 = σf) (hX2 : X.2.2.2 = .inl (some (.int r))) {σ : St} {x0 : Nat} (hf : fX4_startAt_21 σ x0 = some (σf, r)) : G MtX4_startAt X σ 21 [(0, rv x0)] [] := by
  unfold fX4_startAt_21 at hf
  refine g_aload_n (j := 0) dX4_startAt_21 rfl rfl ?_
  obtain ⟨v1, ev1, hf⟩ := ob hf
  refine g_getI dX4_startAt_22 ev1 t_219 hin8 hc8 (by decide) rfl ?_
  exact g_iret dX4_startAt_25 rfl rfl hX2 hX1 hf

set_option maxRecDepth 100000 in
set_option maxHeartbeats 4000000 in
theorem wX4_startAt (l : Launch) {σ σf : St} {x0 : Nat} {x1 : Int32} {r : Int32} (hf : fX4_startAt σ x0 x1 = some (σf, r)) : Con MtX4_startAt yX4_startAt l σ [rv x0, .int x1] σf (some (.int r)) := by
  refine Con.of (by decide +kernel) rfl (fun h => absurd (show false = true from h) (by decide)) (by simp only [sl_n, sl_r, sl_i, sl_l]; exact Nat.le_of_ble_eq_true rfl) ?_
  rw [show lv_args 0 [rv x0, .int x1] = [(0, rv x0), (1, .int x1)] by simp only [la_n, la_r, la_i, la_l] <;> rfl]
  have hX1 : ((l, σ, σf, .inl (some (.int r))) : Xt).2.2.1 = σf := rfl
  have hX2 : ((l, σ, σf, .inl (some (.int r))) : Xt).2.2.2 = .inl (some (.int r)) := rfl
  unfold fX4_startAt at hf
  refine g_iload_n (j := 1) dX4_startAt_0 rfl rfl ?_
  refine g_if_lt (tgt := 21) dX4_startAt_1 (by decide) (fun c1 => ?_) (fun c1 => ?_)
  · rw [if_pos c1] at hf
    refine g_sub (L' := [(0, rv x0)]) [0] rfl ?_
    exact bX4_startAt_21 hX1 hX2 hf
  · rw [if_neg c1] at hf
    refine g_iload_n (j := 1) dX4_startAt_4 rfl rfl ?_
    refine g_aload_n (j := 0) dX4_startAt_5 rfl rfl ?_
    obtain ⟨v2, ev2, hf⟩ := ob hf
    refine g_getI dX4_startAt_6 ev2 t_223 hin8 hc8 (by decide) rfl ?_
    refine g_icmp_ge (tgt := 21) dX4_startAt_9 (by decide) (fun c3 => ?_) (fun c3 => ?_)
    · rw [if_pos c3] at hf
      refine g_sub (L' := [(0, rv x0)]) [0] rfl ?_
      exact bX4_startAt_21 hX1 hX2 hf
    · rw [if_neg c3] at hf
      refine g_aload_n (j := 0) dX4_startAt_12 rfl rfl ?_
      obtain ⟨v4, ev4, hf⟩ := ob hf
      refine g_getF dX4_startAt_13 ev4 t_221 hin8 hc8 (by decide) rfl ?_
      refine g_iload_n (j := 1) dX4_startAt_16 rfl rfl ?_
      obtain ⟨v5, ev5, hf⟩ := ob hf
      refine g_iald dX4_startAt_17 ev5 ?_
      refine g_goto (tgt := 25) dX4_startAt_18 (by decide) ?_
      exact g_iret dX4_startAt_25 rfl rfl hX2 hX1 hf

theorem okX4_startAt (M : Mt) (h1 : 1 + 1 ≤ M.2.2.2.2.1) (h2 : 8 + (2 + 11) + 84 ≤ M.2.2.2.2.2.1) : CallOk M MtX4_startAt yX4_startAt 1 := ⟨t_1375, h1, h2, ⟨by decide, by decide⟩, by decide +kernel, t_10⟩
abbrev MtX4_parameterOf : Mt := (cX4_parameterOf, 3, "ExactlySaid$Reader", (Option.some Jvm.ClassFile.FieldType.int), 1, 84, false)
set_option maxRecDepth 100000 in
set_option maxHeartbeats 4000000 in
theorem bX4_parameterOf_2 {X : Xt} {σf : St} {r : Int32} (hX1 : X.2.2.1 = σf) (hX2 : X.2.2.2 = .inl (some (.int r))) : ∀ (n : Nat) (σ : St) (x0 : Nat) (x1 : Int32) (x2 : Int32), fX4_parameterOf_2 n σ x0 x1 x2 = some (σf, r) → G MtX4_parameterOf X σ 2 [(0, rv x0), (1, .int x1), (2, .int x2)] [] := by
  intro n
  induction n with
  | zero => intro σ x0 x1 x2 hf; cases hf
  | succ n ih =>
    intro σ x0 x1 x2 hf
    rw [fX4_parameterOf_2] at hf
    refine g_iload_n (j := 2) dX4_parameterOf_2 rfl rfl ?_
    refine g_aload_n (j := 0) dX4_parameterOf_3 rfl rfl ?_
    obtain ⟨v1, ev1, hf⟩ := ob hf
    refine g_getI dX4_parameterOf_4 ev1 t_238 hin8 hc8 (by decide) rfl ?_
    refine g_icmp_ge (tgt := 37) dX4_parameterOf_7 (by decide) (fun c2 => ?_) (fun c2 => ?_)
    · rw [if_pos c2] at hf
      refine g_iconst (v := (-1)) dX4_parameterOf_37 (by decide) ?_
      exact g_iret dX4_parameterOf_38 rfl rfl hX2 hX1 hf
    · rw [if_neg c2] at hf
      refine g_iload_n (j := 2) dX4_parameterOf_10 rfl rfl ?_
      refine g_aload_n (j := 0) dX4_parameterOf_11 rfl rfl ?_
      obtain ⟨v3, ev3, hf⟩ := ob hf
      refine g_getF dX4_parameterOf_12 ev3 t_237 hin8 hc8 (by decide) rfl ?_
      obtain ⟨v4, ev4, hf⟩ := ob hf
      refine g_alen dX4_parameterOf_15 ev4 ?_
      refine g_icmp_ge (tgt := 37) dX4_parameterOf_16 (by decide) (fun c5 => ?_) (fun c5 => ?_)
      · rw [if_pos c5] at hf
        refine g_iconst (v := (-1)) dX4_parameterOf_37 (by decide) ?_
        exact g_iret dX4_parameterOf_38 rfl rfl hX2 hX1 hf
      · rw [if_neg c5] at hf
        refine g_aload_n (j := 0) dX4_parameterOf_19 rfl rfl ?_
        obtain ⟨v6, ev6, hf⟩ := ob hf
        refine g_getF dX4_parameterOf_20 ev6 t_237 hin8 hc8 (by decide) rfl ?_
        refine g_iload_n (j := 2) dX4_parameterOf_23 rfl rfl ?_
        obtain ⟨v7, ev7, hf⟩ := ob hf
        refine g_iald dX4_parameterOf_24 ev7 ?_
        refine g_iload_n (j := 1) dX4_parameterOf_25 rfl rfl ?_
        refine g_icmp_ne (tgt := 31) dX4_parameterOf_26 (by decide) (fun c8 => ?_) (fun c8 => ?_)
        · rw [if_neg c8] at hf
          obtain ⟨v9, ev9, hf⟩ := nm_el hf
          refine g_iinc (L' := [(2, .int v9), (0, rv x0), (1, .int x1)]) (j := 2) (v := v9) dX4_parameterOf_31 rfl (by rw [ev9]; rfl) (Nat.le_of_ble_eq_true rfl) rfl ?_
          refine g_goto (tgt := 2) dX4_parameterOf_34 (by decide) ?_
          refine g_sub (L' := [(0, rv x0), (1, .int x1), (2, .int v9)]) [1, 2, 0] rfl ?_
          exact ih _ _ _ _ hf
        · rw [if_pos c8] at hf
          refine g_iload_n (j := 2) dX4_parameterOf_29 rfl rfl ?_
          exact g_iret dX4_parameterOf_30 rfl rfl hX2 hX1 hf

set_option maxRecDepth 100000 in
set_option maxHeartbeats 4000000 in
theorem wX4_parameterOf (l : Launch) {σ σf : St} {x0 : Nat} {x1 : Int32} {r : Int32} (hf : fX4_parameterOf σ x0 x1 = some (σf, r)) : Con MtX4_parameterOf yX4_parameterOf l σ [rv x0, .int x1] σf (some (.int r)) := by
  refine Con.of (by decide +kernel) rfl (fun h => absurd (show false = true from h) (by decide)) (by simp only [sl_n, sl_r, sl_i, sl_l]; exact Nat.le_of_ble_eq_true rfl) ?_
  rw [show lv_args 0 [rv x0, .int x1] = [(0, rv x0), (1, .int x1)] by simp only [la_n, la_r, la_i, la_l] <;> rfl]
  have hX1 : ((l, σ, σf, .inl (some (.int r))) : Xt).2.2.1 = σf := rfl
  have hX2 : ((l, σ, σf, .inl (some (.int r))) : Xt).2.2.2 = .inl (some (.int r)) := rfl
  unfold fX4_parameterOf at hf
  refine g_iconst (v := 0) dX4_parameterOf_0 (by decide) ?_
  refine g_istore_n (i := 2) (L' := [(2, .int 0), (0, rv x0), (1, .int x1)]) dX4_parameterOf_1 rfl (Nat.le_of_ble_eq_true rfl) rfl ?_
  refine g_sub (L' := [(0, rv x0), (1, .int x1), (2, .int 0)]) [1, 2, 0] rfl ?_
  exact bX4_parameterOf_2 hX1 hX2 FU _ _ _ _ hf

theorem okX4_parameterOf (M : Mt) (h1 : 1 + 1 ≤ M.2.2.2.2.1) (h2 : 8 + (3 + 11) + 84 ≤ M.2.2.2.2.2.1) : CallOk M MtX4_parameterOf yX4_parameterOf 1 := ⟨t_1379, h1, h2, ⟨by decide, by decide⟩, by decide +kernel, t_10⟩
abbrev MtX4_head : Mt := (cX4_head, 3, "ExactlySaid$Reader", (Option.some Jvm.ClassFile.FieldType.boolean), 3, 127, false)
set_option maxRecDepth 100000 in
set_option maxHeartbeats 4000000 in
theorem bX4_head_139 {X : Xt} {σf : St} {r : Int32} (hX1 : X.2.2.1 = σf) (hX2 : X.2.2.2 = .inl (some (.int r))) {k52 : St → Nat → Int32 → Option (St × Int32)} (hk52 : ∀ (σ : St) (x0 : Nat) (x1 : Int32), k52 σ x0 x1 = some (σf, r) → G MtX4_head X σ 52 [(0, rv x0), (1, .int x1)] []) {σ : St} {x0 : Nat} {y0 : Int32} (hf : fX4_head_139 k52 σ x0 y0 = some (σf, r)) : G MtX4_head X σ 139 [(0, rv x0)] [.int y0] := by
  unfold fX4_head_139 at hf
  refine g_istore_n (i := 1) (L' := [(1, .int y0), (0, rv x0)]) dX4_head_139 rfl (Nat.le_of_ble_eq_true rfl) (by simp [rv_cat]) ?_
  refine g_aload_n (j := 1) dX4_head_140 rfl rfl ?_
  refine g_dup dX4_head_141 (rv_cat _) ?_
  obtain ⟨v1, ev1, hf⟩ := ob hf
  refine g_getI dX4_head_142 ev1 t_224 hin8 hc8 (by decide) rfl ?_
  refine g_iconst (v := 2) dX4_head_145 (by decide) ?_
  refine g_iadd dX4_head_146 ?_
  obtain ⟨σ2, eσ2, hf⟩ := ob hf
  refine g_putI dX4_head_147 eσ2 (Or.inl t_224) hin8 hc8 (by decide) hty8 hnm8 (Or.inl rfl) rfl rfl rfl ?_
  refine g_goto (tgt := 52) dX4_head_150 (by decide) ?_
  refine g_sub (L' := [(0, rv x0), (1, .int y0)]) [1, 0] rfl ?_
  exact hk52 _ _ _ hf

set_option maxRecDepth 100000 in
set_option maxHeartbeats 4000000 in
theorem bX4_head_153 {X : Xt} {σf : St} {r : Int32} (hX1 : X.2.2.1 = σf) (hX2 : X.2.2.2 = .inl (some (.int r))) {σ : St} {x0 : Nat} (hf : fX4_head_153 σ x0 = some (σf, r)) : G MtX4_head X σ 153 [(0, rv x0)] [] := by
  unfold fX4_head_153 at hf
  refine g_aload_n (j := 0) dX4_head_153 rfl rfl ?_
  refine g_dup dX4_head_154 (rv_cat _) ?_
  obtain ⟨v1, ev1, hf⟩ := ob hf
  refine g_getI dX4_head_155 ev1 t_224 hin8 hc8 (by decide) rfl ?_
  refine g_iconst (v := 1) dX4_head_158 (by decide) ?_
  refine g_iadd dX4_head_159 ?_
  obtain ⟨σ2, eσ2, hf⟩ := ob hf
  refine g_putI dX4_head_160 eσ2 (Or.inl t_224) hin8 hc8 (by decide) hty8 hnm8 (Or.inl rfl) rfl rfl rfl ?_
  refine g_iconst (v := 1) dX4_head_163 (by decide) ?_
  exact g_iret dX4_head_164 rfl (by decide) hX2 hX1 hf

set_option maxRecDepth 100000 in
set_option maxHeartbeats 4000000 in
theorem bX4_head_52 {X : Xt} {σf : St} {r : Int32} (hX1 : X.2.2.1 = σf) (hX2 : X.2.2.2 = .inl (some (.int r))) : ∀ (n : Nat) (σ : St) (x0 : Nat) (x1 : Int32), fX4_head_52 n σ x0 x1 = some (σf, r) → G MtX4_head X σ 52 [(0, rv x0), (1, .int x1)] [] := by
  intro n
  induction n with
  | zero => intro σ x0 x1 hf; cases hf
  | succ n ih =>
    intro σ x0 x1 hf
    rw [fX4_head_52] at hf
    refine g_iload_n (j := 1) dX4_head_52 rfl rfl ?_
    refine g_if_ne (tgt := 153) dX4_head_53 (by decide) (fun c1 => ?_) (fun c1 => ?_)
    · rw [if_neg c1] at hf
      refine g_sub (L' := [(0, rv x0)]) [0] rfl ?_
      exact bX4_head_153 hX1 hX2 hf
    · rw [if_pos c1] at hf
      refine g_aload_n (j := 0) dX4_head_56 rfl rfl ?_
      obtain ⟨v2, ev2, hf⟩ := ob hf
      refine g_getI dX4_head_57 ev2 t_224 hin8 hc8 (by decide) rfl ?_
      refine g_aload_n (j := 0) dX4_head_60 rfl rfl ?_
      obtain ⟨v3, ev3, hf⟩ := ob hf
      refine g_getI dX4_head_61 ev3 t_223 hin8 hc8 (by decide) rfl ?_
      refine g_icmp_ge (tgt := 153) dX4_head_64 (by decide) (fun c4 => ?_) (fun c4 => ?_)
      · rw [if_pos c4] at hf
        refine g_sub (L' := [(0, rv x0)]) [0] rfl ?_
        exact bX4_head_153 hX1 hX2 hf
      · rw [if_neg c4] at hf
        refine g_aload_n (j := 0) dX4_head_67 rfl rfl ?_
        refine g_aload_n (j := 0) dX4_head_68 rfl rfl ?_
        obtain ⟨v5, ev5, hf⟩ := ob hf
        refine g_getI dX4_head_69 ev5 t_224 hin8 hc8 (by decide) rfl ?_
        obtain ⟨_, h8, hf⟩ := ob hf
        obtain ⟨σ6, v7, eσ6, hf⟩ := cb_el hf
        refine g_callV_i dX4_head_72 (wX4_wordAt _ eσ6) (okX4_wordAt _ (by decide) (by decide)) (ckK_el h8) hc8 t_1368 t_1370 s_X4_wordAt rfl (Nat.le_trans (cat_le _) (Nat.le_of_ble_eq_true rfl)) rfl ?_
        refine g_istore_n (i := 2) (L' := [(2, .int v7), (0, rv x0), (1, .int x1)]) dX4_head_75 rfl (Nat.le_of_ble_eq_true rfl) rfl ?_
        refine g_aload_n (j := 1) dX4_head_76 rfl rfl ?_
        obtain ⟨v9, ev9, hf⟩ := ob hf
        refine g_getI dX4_head_77 ev9 t_238 hin8 hc8 (by decide) rfl ?_
        refine g_aload_n (j := 1) dX4_head_80 rfl rfl ?_
        obtain ⟨v10, ev10, hf⟩ := ob hf
        refine g_getF dX4_head_81 ev10 t_237 hin8 hc8 (by decide) rfl ?_
        obtain ⟨v11, ev11, hf⟩ := ob hf
        refine g_alen dX4_head_84 ev11 ?_
        refine g_icmp_ge (tgt := 97) dX4_head_85 (by decide) (fun c12 => ?_) (fun c12 => ?_)
        · rw [if_pos c12] at hf
          refine g_iconst (v := 0) dX4_head_97 (by decide) ?_
          exact g_iret dX4_head_98 rfl (by decide) hX2 hX1 hf
        · rw [if_neg c12] at hf
          refine g_aload_n (j := 1) dX4_head_88 rfl rfl ?_
          refine g_iload_n (j := 0) dX4_head_89 rfl rfl ?_
          obtain ⟨_, h15, hf⟩ := ob hf
          obtain ⟨σ13, v14, eσ13, hf⟩ := cb_el hf
          refine g_callV_i dX4_head_90 (wX4_parameterOf _ eσ13) (okX4_parameterOf _ (by decide) (by decide)) (ckK_el h15) hc8 t_1376 t_1378 s_X4_parameterOf rfl (Nat.le_trans (cat_le _) (Nat.le_of_ble_eq_true rfl)) rfl ?_
          refine g_iconst (v := (-1)) dX4_head_93 (by decide) ?_
          refine g_icmp_eq (tgt := 99) dX4_head_94 (by decide) (fun c16 => ?_) (fun c16 => ?_)
          · rw [if_pos c16] at hf
            refine g_aload_n (j := 1) dX4_head_99 rfl rfl ?_
            obtain ⟨v17, ev17, hf⟩ := ob hf
            refine g_getF dX4_head_100 ev17 t_237 hin8 hc8 (by decide) rfl ?_
            refine g_aload_n (j := 1) dX4_head_103 rfl rfl ?_
            obtain ⟨v18, ev18, hf⟩ := ob hf
            refine g_getI dX4_head_104 ev18 t_238 hin8 hc8 (by decide) rfl ?_
            refine g_iload_n (j := 0) dX4_head_107 rfl rfl ?_
            obtain ⟨σ19, eσ19, hf⟩ := ob hf
            refine g_iast dX4_head_108 eσ19 ?_
            refine g_aload_n (j := 1) dX4_head_109 rfl rfl ?_
            refine g_dup dX4_head_110 (rv_cat _) ?_
            obtain ⟨v20, ev20, hf⟩ := ob hf
            refine g_getI dX4_head_111 ev20 t_238 hin8 hc8 (by decide) rfl ?_
            refine g_iconst (v := 1) dX4_head_114 (by decide) ?_
            refine g_iadd dX4_head_115 ?_
            obtain ⟨σ21, eσ21, hf⟩ := ob hf
            refine g_putI dX4_head_116 eσ21 (Or.inl t_238) hin8 hc8 (by decide) hty8 hnm8 (Or.inl rfl) rfl rfl rfl ?_
            refine g_aload_n (j := 1) dX4_head_119 rfl rfl ?_
            refine g_aload_n (j := 1) dX4_head_120 rfl rfl ?_
            obtain ⟨v22, ev22, hf⟩ := ob hf
            refine g_getI dX4_head_121 ev22 t_224 hin8 hc8 (by decide) rfl ?_
            refine g_iconst (v := 1) dX4_head_124 (by decide) ?_
            refine g_iadd dX4_head_125 ?_
            obtain ⟨_, h25, hf⟩ := ob hf
            obtain ⟨σ23, v24, eσ23, hf⟩ := cb_el hf
            refine g_callV_i dX4_head_126 (wX4_tokenAt _ eσ23) (okX4_tokenAt _ (by decide) (by decide)) (ckK_el h25) hc8 t_1364 t_1366 s_X4_tokenAt rfl (Nat.le_trans (cat_le _) (Nat.le_of_ble_eq_true rfl)) rfl ?_
            refine g_bipush (v := 41) dX4_head_129 (by decide) ?_
            refine g_icmp_ne (tgt := 138) dX4_head_131 (by decide) (fun c26 => ?_) (fun c26 => ?_)
            · rw [if_neg c26] at hf
              refine g_iconst (v := 0) dX4_head_138 (by decide) ?_
              refine g_sub (L' := [(0, rv x0)]) [1] rfl ?_
              exact bX4_head_139 hX1 hX2 (fun σ x0 x1 hf => ih σ x0 x1 hf) hf
            · rw [if_pos c26] at hf
              refine g_iconst (v := 1) dX4_head_134 (by decide) ?_
              refine g_goto (tgt := 139) dX4_head_135 (by decide) ?_
              refine g_sub (L' := [(0, rv x0)]) [1] rfl ?_
              exact bX4_head_139 hX1 hX2 (fun σ x0 x1 hf => ih σ x0 x1 hf) hf
          · rw [if_neg c16] at hf
            refine g_iconst (v := 0) dX4_head_97 (by decide) ?_
            exact g_iret dX4_head_98 rfl (by decide) hX2 hX1 hf

set_option maxRecDepth 100000 in
set_option maxHeartbeats 4000000 in
theorem wX4_head (l : Launch) {σ σf : St} {x0 : Nat} {r : Int32} (hf : fX4_head σ x0 = some (σf, r)) : Con MtX4_head yX4_head l σ [rv x0] σf (some (.int r)) := by
  refine Con.of (by decide +kernel) rfl (fun h => absurd (show false = true from h) (by decide)) (by simp only [sl_n, sl_r, sl_i, sl_l]; exact Nat.le_of_ble_eq_true rfl) ?_
  rw [show lv_args 0 [rv x0] = [(0, rv x0)] by simp only [la_n, la_r, la_i, la_l] <;> rfl]
  have hX1 : ((l, σ, σf, .inl (some (.int r))) : Xt).2.2.1 = σf := rfl
  have hX2 : ((l, σ, σf, .inl (some (.int r))) : Xt).2.2.2 = .inl (some (.int r)) := rfl
  unfold fX4_head at hf
  refine g_aload_n (j := 0) dX4_head_0 rfl rfl ?_
  refine g_aload_n (j := 0) dX4_head_1 rfl rfl ?_
  obtain ⟨_, h3, hf⟩ := ob hf
  obtain ⟨σ1, v2, eσ1, hf⟩ := cb_el hf
  refine g_callV_i dX4_head_2 (wX4_formAhead _ eσ1) (okX4_formAhead _ (by decide) (by decide)) (ckK_el h3) hc8 t_1360 t_1362 s_X4_formAhead rfl (Nat.le_trans (cat_le _) (Nat.le_of_ble_eq_true rfl)) rfl ?_
  obtain ⟨σ4, eσ4, hf⟩ := ob hf
  refine g_putI dX4_head_5 eσ4 (Or.inl t_232) hin8 hc8 (by decide) hty8 hnm8 (Or.inl rfl) rfl rfl rfl ?_
  refine g_aload_n (j := 0) dX4_head_8 rfl rfl ?_
  obtain ⟨v5, ev5, hf⟩ := ob hf
  refine g_getI dX4_head_9 ev5 t_232 hin8 hc8 (by decide) rfl ?_
  refine g_if_ne (tgt := 17) dX4_head_12 (by decide) (fun c6 => ?_) (fun c6 => ?_)
  · rw [if_neg c6] at hf
    refine g_aload_n (j := 0) dX4_head_17 rfl rfl ?_
    refine g_aload_n (j := 0) dX4_head_18 rfl rfl ?_
    refine g_iconst (v := 0) dX4_head_19 (by decide) ?_
    obtain ⟨_, h9, hf⟩ := ob hf
    obtain ⟨σ7, v8, eσ7, hf⟩ := cb_el hf
    refine g_callV_i dX4_head_20 (wX4_wordAt _ eσ7) (okX4_wordAt _ (by decide) (by decide)) (ckK_el h9) hc8 t_1368 t_1370 s_X4_wordAt rfl (Nat.le_trans (cat_le _) (Nat.le_of_ble_eq_true rfl)) rfl ?_
    obtain ⟨σ10, eσ10, hf⟩ := ob hf
    refine g_putI dX4_head_23 eσ10 (Or.inl t_234) hin8 hc8 (by decide) hty8 hnm8 (Or.inl rfl) rfl rfl rfl ?_
    refine g_aload_n (j := 0) dX4_head_26 rfl rfl ?_
    refine g_aload_n (j := 0) dX4_head_27 rfl rfl ?_
    refine g_iconst (v := 0) dX4_head_28 (by decide) ?_
    obtain ⟨_, h13, hf⟩ := ob hf
    obtain ⟨σ11, v12, eσ11, hf⟩ := cb_el hf
    refine g_callV_i dX4_head_29 (wX4_startAt _ eσ11) (okX4_startAt _ (by decide) (by decide)) (ckK_el h13) hc8 t_1372 t_1374 s_X4_startAt rfl (Nat.le_trans (cat_le _) (Nat.le_of_ble_eq_true rfl)) rfl ?_
    obtain ⟨σ14, eσ14, hf⟩ := ob hf
    refine g_putI dX4_head_32 eσ14 (Or.inl t_236) hin8 hc8 (by decide) hty8 hnm8 (Or.inl rfl) rfl rfl rfl ?_
    refine g_aload_n (j := 0) dX4_head_35 rfl rfl ?_
    refine g_iconst (v := 2) dX4_head_36 (by decide) ?_
    obtain ⟨σ15, eσ15, hf⟩ := ob hf
    refine g_putI dX4_head_37 eσ15 (Or.inl t_224) hin8 hc8 (by decide) hty8 hnm8 (Or.inl rfl) rfl rfl rfl ?_
    refine g_aload_n (j := 0) dX4_head_40 rfl rfl ?_
    obtain ⟨v16, ev16, hf⟩ := ob hf
    refine g_getI dX4_head_41 ev16 t_232 hin8 hc8 (by decide) rfl ?_
    refine g_iconst (v := 1) dX4_head_44 (by decide) ?_
    refine g_icmp_ne (tgt := 50) dX4_head_45 (by decide) (fun c17 => ?_) (fun c17 => ?_)
    · rw [if_neg c17] at hf
      refine g_iconst (v := 0) dX4_head_50 (by decide) ?_
      refine g_istore_n (i := 1) (L' := [(1, .int 0), (0, rv x0)]) dX4_head_51 rfl (Nat.le_of_ble_eq_true rfl) (by simp [rv_cat]) ?_
      refine g_sub (L' := [(0, rv x0), (1, .int 0)]) [1, 0] rfl ?_
      exact bX4_head_52 hX1 hX2 FU _ _ _ hf
    · rw [if_pos c17] at hf
      refine g_iconst (v := 1) dX4_head_48 (by decide) ?_
      exact g_iret dX4_head_49 rfl (by decide) hX2 hX1 hf
  · rw [if_pos c6] at hf
    refine g_iconst (v := 1) dX4_head_15 (by decide) ?_
    exact g_iret dX4_head_16 rfl (by decide) hX2 hX1 hf

theorem okX4_head (M : Mt) (h1 : 3 + 1 ≤ M.2.2.2.2.1) (h2 : 8 + (3 + 11) + 127 ≤ M.2.2.2.2.2.1) : CallOk M MtX4_head yX4_head 0 := ⟨t_1359, h1, h2, ⟨by decide, by decide⟩, by decide +kernel, t_10⟩
abbrev MtX4_emit : Mt := (cX4_emit, 5, "ExactlySaid$Reader", none, 1, 84, false)
set_option maxRecDepth 100000 in
set_option maxHeartbeats 4000000 in
theorem wX4_emit (l : Launch) {σ σf : St} {x0 : Nat} {x1 : Int32} {x2 : Int32} {x3 : Int32} {x4 : Int32} {r : Unit} (hf : fX4_emit σ x0 x1 x2 x3 x4 = some (σf, r)) : Con MtX4_emit yX4_emit l σ [rv x0, .int x1, .int x2, .int x3, .int x4] σf (none) := by
  refine Con.of (by decide +kernel) rfl (fun h => absurd (show false = true from h) (by decide)) (by simp only [sl_n, sl_r, sl_i, sl_l]; exact Nat.le_of_ble_eq_true rfl) ?_
  rw [show lv_args 0 [rv x0, .int x1, .int x2, .int x3, .int x4] = [(0, rv x0), (1, .int x1), (2, .int x2), (3, .int x3), (4, .int x4)] by simp only [la_n, la_r, la_i, la_l] <;> rfl]
  have hX1 : ((l, σ, σf, .inl (none)) : Xt).2.2.1 = σf := rfl
  have hX2 : ((l, σ, σf, .inl (none)) : Xt).2.2.2 = .inl (none) := rfl
  unfold fX4_emit at hf
  refine g_aload_n (j := 0) dX4_emit_0 rfl rfl ?_
  obtain ⟨v1, ev1, hf⟩ := ob hf
  refine g_getI dX4_emit_1 ev1 t_229 hin8 hc8 (by decide) rfl ?_
  refine g_aload_n (j := 0) dX4_emit_4 rfl rfl ?_
  obtain ⟨v2, ev2, hf⟩ := ob hf
  refine g_getF dX4_emit_5 ev2 t_225 hin8 hc8 (by decide) rfl ?_
  obtain ⟨v3, ev3, hf⟩ := ob hf
  refine g_alen dX4_emit_8 ev3 ?_
  refine g_icmp_ge (tgt := 63) dX4_emit_9 (by decide) (fun c4 => ?_) (fun c4 => ?_)
  · rw [if_pos c4] at hf
    exact g_vret dX4_emit_63 rfl hX2 hX1 hf
  · rw [if_neg c4] at hf
    refine g_aload_n (j := 0) dX4_emit_12 rfl rfl ?_
    obtain ⟨v5, ev5, hf⟩ := ob hf
    refine g_getF dX4_emit_13 ev5 t_225 hin8 hc8 (by decide) rfl ?_
    refine g_aload_n (j := 0) dX4_emit_16 rfl rfl ?_
    obtain ⟨v6, ev6, hf⟩ := ob hf
    refine g_getI dX4_emit_17 ev6 t_229 hin8 hc8 (by decide) rfl ?_
    refine g_iload_n (j := 1) dX4_emit_20 rfl rfl ?_
    obtain ⟨σ7, eσ7, hf⟩ := ob hf
    refine g_iast dX4_emit_21 eσ7 ?_
    refine g_aload_n (j := 0) dX4_emit_22 rfl rfl ?_
    obtain ⟨v8, ev8, hf⟩ := ob hf
    refine g_getF dX4_emit_23 ev8 t_226 hin8 hc8 (by decide) rfl ?_
    refine g_aload_n (j := 0) dX4_emit_26 rfl rfl ?_
    obtain ⟨v9, ev9, hf⟩ := ob hf
    refine g_getI dX4_emit_27 ev9 t_229 hin8 hc8 (by decide) rfl ?_
    refine g_iload_n (j := 2) dX4_emit_30 rfl rfl ?_
    obtain ⟨σ10, eσ10, hf⟩ := ob hf
    refine g_iast dX4_emit_31 eσ10 ?_
    refine g_aload_n (j := 0) dX4_emit_32 rfl rfl ?_
    obtain ⟨v11, ev11, hf⟩ := ob hf
    refine g_getF dX4_emit_33 ev11 t_227 hin8 hc8 (by decide) rfl ?_
    refine g_aload_n (j := 0) dX4_emit_36 rfl rfl ?_
    obtain ⟨v12, ev12, hf⟩ := ob hf
    refine g_getI dX4_emit_37 ev12 t_229 hin8 hc8 (by decide) rfl ?_
    refine g_iload_n (j := 3) dX4_emit_40 rfl rfl ?_
    obtain ⟨σ13, eσ13, hf⟩ := ob hf
    refine g_iast dX4_emit_41 eσ13 ?_
    refine g_aload_n (j := 0) dX4_emit_42 rfl rfl ?_
    obtain ⟨v14, ev14, hf⟩ := ob hf
    refine g_getF dX4_emit_43 ev14 t_228 hin8 hc8 (by decide) rfl ?_
    refine g_aload_n (j := 0) dX4_emit_46 rfl rfl ?_
    obtain ⟨v15, ev15, hf⟩ := ob hf
    refine g_getI dX4_emit_47 ev15 t_229 hin8 hc8 (by decide) rfl ?_
    refine g_iload (j := 4) dX4_emit_50 rfl ?_
    obtain ⟨σ16, eσ16, hf⟩ := ob hf
    refine g_iast dX4_emit_52 eσ16 ?_
    refine g_aload_n (j := 0) dX4_emit_53 rfl rfl ?_
    refine g_dup dX4_emit_54 (rv_cat _) ?_
    obtain ⟨v17, ev17, hf⟩ := ob hf
    refine g_getI dX4_emit_55 ev17 t_229 hin8 hc8 (by decide) rfl ?_
    refine g_iconst (v := 1) dX4_emit_58 (by decide) ?_
    refine g_iadd dX4_emit_59 ?_
    obtain ⟨σ18, eσ18, hf⟩ := ob hf
    refine g_putI dX4_emit_60 eσ18 (Or.inl t_229) hin8 hc8 (by decide) hty8 hnm8 (Or.inl rfl) rfl rfl rfl ?_
    exact g_vret dX4_emit_63 rfl hX2 hX1 hf

theorem okX4_emit (M : Mt) (h1 : 1 + 1 ≤ M.2.2.2.2.1) (h2 : 8 + (5 + 11) + 84 ≤ M.2.2.2.2.2.1) : CallOk M MtX4_emit yX4_emit 4 := ⟨t_1399, h1, h2, ⟨by decide, by decide⟩, by decide +kernel, t_10⟩
abbrev MtX11_stepOf : Mt := (cX11_stepOf, 2, "ExactlySaid", (Option.some Jvm.ClassFile.FieldType.int), 1, 84, false)
set_option maxRecDepth 100000 in
set_option maxHeartbeats 4000000 in
theorem bX11_stepOf_2 {X : Xt} {σf : St} {r : Int32} (hX1 : X.2.2.1 = σf) (hX2 : X.2.2.2 = .inl (some (.int r))) : ∀ (n : Nat) (σ : St) (x0 : Int32) (x1 : Int32), fX11_stepOf_2 n σ x0 x1 = some (σf, r) → G MtX11_stepOf X σ 2 [(0, .int x0), (1, .int x1)] [] := by
  intro n
  induction n with
  | zero => intro σ x0 x1 hf; cases hf
  | succ n ih =>
    intro σ x0 x1 hf
    rw [fX11_stepOf_2] at hf
    refine g_iload_n (j := 1) dX11_stepOf_2 rfl rfl ?_
    refine g_getsKW dX11_stepOf_3 t_1411 ?_
    obtain ⟨v1, ev1, hf⟩ := ob hf
    refine g_alen dX11_stepOf_6 ev1 ?_
    refine g_icmp_ge (tgt := 30) dX11_stepOf_7 (by decide) (fun c2 => ?_) (fun c2 => ?_)
    · rw [if_pos c2] at hf
      refine g_iconst (v := 0) dX11_stepOf_30 (by decide) ?_
      exact g_iret dX11_stepOf_31 rfl rfl hX2 hX1 hf
    · rw [if_neg c2] at hf
      refine g_getsKW dX11_stepOf_10 t_1411 ?_
      refine g_iload_n (j := 1) dX11_stepOf_13 rfl rfl ?_
      obtain ⟨v3, ev3, hf⟩ := ob hf
      refine g_iald dX11_stepOf_14 ev3 ?_
      refine g_iload_n (j := 0) dX11_stepOf_15 rfl rfl ?_
      refine g_icmp_ne (tgt := 24) dX11_stepOf_16 (by decide) (fun c4 => ?_) (fun c4 => ?_)
      · rw [if_neg c4] at hf
        obtain ⟨v5, ev5, hf⟩ := nm_el hf
        refine g_iinc (L' := [(1, .int v5), (0, .int x0)]) (j := 1) (v := v5) dX11_stepOf_24 rfl (by rw [ev5]; rfl) (Nat.le_of_ble_eq_true rfl) rfl ?_
        refine g_goto (tgt := 2) dX11_stepOf_27 (by decide) ?_
        refine g_sub (L' := [(0, .int x0), (1, .int v5)]) [1, 0] rfl ?_
        exact ih _ _ _ hf
      · rw [if_pos c4] at hf
        refine g_bipush (v := 10) dX11_stepOf_19 (by decide) ?_
        refine g_iload_n (j := 1) dX11_stepOf_21 rfl rfl ?_
        refine g_iadd dX11_stepOf_22 ?_
        exact g_iret dX11_stepOf_23 rfl rfl hX2 hX1 hf

set_option maxRecDepth 100000 in
set_option maxHeartbeats 4000000 in
theorem wX11_stepOf (l : Launch) {σ σf : St} {x0 : Int32} {r : Int32} (hf : fX11_stepOf σ x0 = some (σf, r)) : Con MtX11_stepOf yX11_stepOf l σ [.int x0] σf (some (.int r)) := by
  refine Con.of (by decide +kernel) rfl (fun h => absurd (show false = true from h) (by decide)) (by simp only [sl_n, sl_r, sl_i, sl_l]; exact Nat.le_of_ble_eq_true rfl) ?_
  rw [show lv_args 0 [.int x0] = [(0, .int x0)] by simp only [la_n, la_r, la_i, la_l] <;> rfl]
  have hX1 : ((l, σ, σf, .inl (some (.int r))) : Xt).2.2.1 = σf := rfl
  have hX2 : ((l, σ, σf, .inl (some (.int r))) : Xt).2.2.2 = .inl (some (.int r)) := rfl
  unfold fX11_stepOf at hf
  refine g_iconst (v := 0) dX11_stepOf_0 (by decide) ?_
  refine g_istore_n (i := 1) (L' := [(1, .int 0), (0, .int x0)]) dX11_stepOf_1 rfl (Nat.le_of_ble_eq_true rfl) rfl ?_
  refine g_sub (L' := [(0, .int x0), (1, .int 0)]) [1, 0] rfl ?_
  exact bX11_stepOf_2 hX1 hX2 FU _ _ _ hf

theorem okX11_stepOf (M : Mt) (h1 : 1 + 1 ≤ M.2.2.2.2.1) (h2 : 8 + (2 + 11) + 84 ≤ M.2.2.2.2.2.1) : CallOk M MtX11_stepOf yX11_stepOf 1 := ⟨t_1410, h1, h2, ⟨by decide, by decide⟩, by decide +kernel, t_1⟩
abbrev MtX4_readWord : Mt := (cX4_readWord, 4, "ExactlySaid$Reader", (Option.some Jvm.ClassFile.FieldType.boolean), 2, 108, false)
set_option maxRecDepth 100000 in
set_option maxHeartbeats 4000000 in
theorem wX4_readWord (l : Launch) {σ σf : St} {x0 : Nat} {x1 : Int32} {x2 : Int32} {r : Int32} (hf : fX4_readWord σ x0 x1 x2 = some (σf, r)) : Con MtX4_readWord yX4_readWord l σ [rv x0, .int x1, .int x2] σf (some (.int r)) := by
  refine Con.of (by decide +kernel) rfl (fun h => absurd (show false = true from h) (by decide)) (by simp only [sl_n, sl_r, sl_i, sl_l]; exact Nat.le_of_ble_eq_true rfl) ?_
  rw [show lv_args 0 [rv x0, .int x1, .int x2] = [(0, rv x0), (1, .int x1), (2, .int x2)] by simp only [la_n, la_r, la_i, la_l] <;> rfl]
  have hX1 : ((l, σ, σf, .inl (some (.int r))) : Xt).2.2.1 = σf := rfl
  have hX2 : ((l, σ, σf, .inl (some (.int r))) : Xt).2.2.2 = .inl (some (.int r)) := rfl
  unfold fX4_readWord at hf
  refine g_aload_n (j := 0) dX4_readWord_0 rfl rfl ?_
  refine g_iload_n (j := 1) dX4_readWord_1 rfl rfl ?_
  obtain ⟨_, h3, hf⟩ := ob hf
  obtain ⟨σ1, v2, eσ1, hf⟩ := cb_el hf
  refine g_callV_i dX4_readWord_2 (wX4_parameterOf _ eσ1) (okX4_parameterOf _ (by decide) (by decide)) (ckK_el h3) hc8 t_1376 t_1378 s_X4_parameterOf rfl (Nat.le_trans (cat_le _) (Nat.le_of_ble_eq_true rfl)) rfl ?_
  refine g_istore_n (i := 3) (L' := [(3, .int v2), (0, rv x0), (1, .int x1), (2, .int x2)]) dX4_readWord_5 rfl (Nat.le_of_ble_eq_true rfl) rfl ?_
  refine g_iload_n (j := 0) dX4_readWord_6 rfl rfl ?_
  refine g_iconst (v := (-1)) dX4_readWord_7 (by decide) ?_
  refine g_icmp_ne (tgt := 23) dX4_readWord_8 (by decide) (fun c4 => ?_) (fun c4 => ?_)
  · rw [if_neg c4] at hf
    refine g_aload_n (j := 1) dX4_readWord_23 rfl rfl ?_
    refine g_bipush (v := 23) dX4_readWord_24 (by decide) ?_
    refine g_iload_n (j := 0) dX4_readWord_26 rfl rfl ?_
    refine g_iload_n (j := 3) dX4_readWord_27 rfl rfl ?_
    refine g_iconst (v := 0) dX4_readWord_28 (by decide) ?_
    obtain ⟨_, h7, hf⟩ := ob hf
    obtain ⟨σ5, v6, eσ5, hf⟩ := cb_el hf
    refine g_callV_v dX4_readWord_29 (wX4_emit _ eσ5) (okX4_emit _ (by decide) (by decide)) (ckK_el h7) hc8 t_1396 t_1398 s_X4_emit rfl (Nat.le_trans (cat_le _) (Nat.le_of_ble_eq_true rfl)) rfl ?_
    refine g_iconst (v := 1) dX4_readWord_32 (by decide) ?_
    exact g_iret dX4_readWord_33 rfl (by decide) hX2 hX1 hf
  · rw [if_pos c4] at hf
    refine g_aload_n (j := 1) dX4_readWord_11 rfl rfl ?_
    refine g_bipush (v := 22) dX4_readWord_12 (by decide) ?_
    refine g_iload_n (j := 2) dX4_readWord_14 rfl rfl ?_
    refine g_iload_n (j := 3) dX4_readWord_15 rfl rfl ?_
    refine g_iconst (v := 0) dX4_readWord_16 (by decide) ?_
    obtain ⟨_, h10, hf⟩ := ob hf
    obtain ⟨σ8, v9, eσ8, hf⟩ := cb_el hf
    refine g_callV_v dX4_readWord_17 (wX4_emit _ eσ8) (okX4_emit _ (by decide) (by decide)) (ckK_el h10) hc8 t_1396 t_1398 s_X4_emit rfl (Nat.le_trans (cat_le _) (Nat.le_of_ble_eq_true rfl)) rfl ?_
    refine g_goto (tgt := 32) dX4_readWord_20 (by decide) ?_
    refine g_iconst (v := 1) dX4_readWord_32 (by decide) ?_
    exact g_iret dX4_readWord_33 rfl (by decide) hX2 hX1 hf

theorem okX4_readWord (M : Mt) (h1 : 2 + 1 ≤ M.2.2.2.2.1) (h2 : 8 + (4 + 11) + 108 ≤ M.2.2.2.2.2.1) : CallOk M MtX4_readWord yX4_readWord 2 := ⟨t_1416, h1, h2, ⟨by decide, by decide⟩, by decide +kernel, t_10⟩
abbrev MtX4_productStep : Mt := (cX4_productStep, 1, "ExactlySaid$Reader", (Option.some Jvm.ClassFile.FieldType.int), 1, 84, false)
set_option maxRecDepth 100000 in
set_option maxHeartbeats 4000000 in
theorem wX4_productStep (l : Launch) {σ σf : St} {x0 : Int32} {r : Int32} (hf : fX4_productStep σ x0 = some (σf, r)) : Con MtX4_productStep yX4_productStep l σ [.int x0] σf (some (.int r)) := by
  refine Con.of (by decide +kernel) rfl (fun h => absurd (show false = true from h) (by decide)) (by simp only [sl_n, sl_r, sl_i, sl_l]; exact Nat.le_of_ble_eq_true rfl) ?_
  rw [show lv_args 0 [.int x0] = [(0, .int x0)] by simp only [la_n, la_r, la_i, la_l] <;> rfl]
  have hX1 : ((l, σ, σf, .inl (some (.int r))) : Xt).2.2.1 = σf := rfl
  have hX2 : ((l, σ, σf, .inl (some (.int r))) : Xt).2.2.2 = .inl (some (.int r)) := rfl
  unfold fX4_productStep at hf
  refine g_iload_n (j := 0) dX4_productStep_0 rfl rfl ?_
  by_cases c1 : x0 = 37
  · rw [if_pos c1] at hf
    refine g_lsw (off := 39) (tgt := 40) dX4_productStep_1 (by decide) (by rw [c1] <;> rfl) (by decide) ?_
    refine g_iconst (v := 5) dX4_productStep_40 (by decide) ?_
    exact g_iret dX4_productStep_41 rfl rfl hX2 hX1 hf
  · rw [if_neg c1] at hf
    by_cases c2 : x0 = 42
    · rw [if_pos c2] at hf
      refine g_lsw (off := 35) (tgt := 36) dX4_productStep_1 (by decide) (by rw [c2] <;> rfl) (by decide) ?_
      refine g_iconst (v := 3) dX4_productStep_36 (by decide) ?_
      exact g_iret dX4_productStep_37 rfl rfl hX2 hX1 hf
    · rw [if_neg c2] at hf
      by_cases c3 : x0 = 47
      · rw [if_pos c3] at hf
        refine g_lsw (off := 37) (tgt := 38) dX4_productStep_1 (by decide) (by rw [c3] <;> rfl) (by decide) ?_
        refine g_iconst (v := 4) dX4_productStep_38 (by decide) ?_
        exact g_iret dX4_productStep_39 rfl rfl hX2 hX1 hf
      · rw [if_neg c3] at hf
        refine g_lsw (off := 41) (tgt := 42) dX4_productStep_1 (by decide) ((lv_osw c1 rfl).trans ((lv_osw c2 rfl).trans ((lv_osw c3 rfl).trans rfl))) (by decide) ?_
        refine g_iconst (v := 0) dX4_productStep_42 (by decide) ?_
        exact g_iret dX4_productStep_43 rfl rfl hX2 hX1 hf

theorem okX4_productStep (M : Mt) (h1 : 1 + 1 ≤ M.2.2.2.2.1) (h2 : 8 + (1 + 11) + 84 ≤ M.2.2.2.2.2.1) : CallOk M MtX4_productStep yX4_productStep 1 := ⟨t_1419, h1, h2, ⟨by decide, by decide⟩, by decide +kernel, t_10⟩
abbrev MtX5_takeOff : Mt := (cX5_takeOff, 16, "ExactlySaid$Reckoner", (Option.some Jvm.ClassFile.FieldType.int), 2, 109, false)
set_option maxRecDepth 100000 in
set_option maxHeartbeats 4000000 in
theorem bX5_takeOff_240 {X : Xt} {σf : St} {r : Int32} (hX1 : X.2.2.1 = σf) (hX2 : X.2.2.2 = .inl (some (.int r))) {k177 : St → Nat → Nat → Int32 → Int32 → Int32 → Int64 → Int32 → Int32 → Option (St × Int32)} {k200 : St → Nat → Nat → Int32 → Int32 → Int32 → Int64 → Int32 → Int32 → Int32 → Int32 → Option (St × Int32)} (hk177 : ∀ (σ : St) (x0 : Nat) (x1 : Nat) (x2 : Int32) (x3 : Int32) (x4 : Int32) (x7 : Int64) (x11 : Int32) (x12 : Int32), k177 σ x0 x1 x2 x3 x4 x7 x11 x12 = some (σf, r) → G MtX5_takeOff X σ 177 [(0, rv x0), (1, rv x1), (2, .int x2), (3, .int x3), (4, .int x4), (7, .long x7), (11, .int x11), (12, .int x12)] []) (hk200 : ∀ (σ : St) (x0 : Nat) (x1 : Nat) (x2 : Int32) (x3 : Int32) (x4 : Int32) (x7 : Int64) (x11 : Int32) (x12 : Int32) (x13 : Int32) (x14 : Int32), k200 σ x0 x1 x2 x3 x4 x7 x11 x12 x13 x14 = some (σf, r) → G MtX5_takeOff X σ 200 [(0, rv x0), (1, rv x1), (2, .int x2), (3, .int x3), (4, .int x4), (7, .long x7), (11, .int x11), (12, .int x12), (13, .int x13), (14, .int x14)] []) {σ : St} {x0 : Nat} {x1 : Nat} {x2 : Int32} {x3 : Int32} {x4 : Int32} {x7 : Int64} {x11 : Int32} {x12 : Int32} {x14 : Int32} {x15 : Int32} {y0 : Int32} (hf : fX5_takeOff_240 k177 k200 σ x0 x1 x2 x3 x4 x7 x11 x12 x14 x15 y0 = some (σf, r)) : G MtX5_takeOff X σ 240 [(0, rv x0), (1, rv x1), (2, .int x2), (3, .int x3), (4, .int x4), (7, .long x7), (11, .int x11), (12, .int x12), (14, .int x14), (15, .int x15)] [.int y0] := by
  unfold fX5_takeOff_240 at hf
  refine g_istore (i := 13) (L' := [(13, .int y0), (0, rv x0), (1, rv x1), (2, .int x2), (3, .int x3), (4, .int x4), (7, .long x7), (11, .int x11), (12, .int x12), (14, .int x14), (15, .int x15)]) dX5_takeOff_240 (Nat.le_of_ble_eq_true rfl) rfl ?_
  refine g_aload_n (j := 2) dX5_takeOff_242 rfl rfl ?_
  refine g_iload_n (j := 3) dX5_takeOff_243 rfl rfl ?_
  refine g_iload (j := 9) dX5_takeOff_244 rfl ?_
  refine g_iadd dX5_takeOff_246 ?_
  refine g_iload (j := 10) dX5_takeOff_247 rfl ?_
  refine g_iload (j := 0) dX5_takeOff_249 rfl ?_
  refine g_ldc (v := 1000000000) dX5_takeOff_251 t_933 ?_
  refine g_imul dX5_takeOff_253 ?_
  refine g_isub dX5_takeOff_254 ?_
  obtain ⟨σ1, eσ1, hf⟩ := ob hf
  refine g_iast dX5_takeOff_255 eσ1 ?_
  obtain ⟨v2, ev2, hf⟩ := nm_el hf
  refine g_iinc (L' := [(14, .int v2), (13, .int y0), (0, rv x0), (1, rv x1), (2, .int x2), (3, .int x3), (4, .int x4), (7, .long x7), (11, .int x11), (12, .int x12), (15, .int x15)]) (j := 9) (v := v2) dX5_takeOff_256 rfl (by rw [ev2]; rfl) (Nat.le_of_ble_eq_true rfl) rfl ?_
  refine g_goto (tgt := 200) dX5_takeOff_259 (by decide) ?_
  refine g_sub (L' := [(0, rv x0), (1, rv x1), (2, .int x2), (3, .int x3), (4, .int x4), (7, .long x7), (11, .int x11), (12, .int x12), (13, .int y0), (14, .int v2)]) [2, 3, 4, 5, 6, 7, 8, 9, 1, 0] rfl ?_
  exact hk200 _ _ _ _ _ _ _ _ _ _ _ hf

set_option maxRecDepth 100000 in
set_option maxHeartbeats 4000000 in
theorem bX5_takeOff_200 {X : Xt} {σf : St} {r : Int32} (hX1 : X.2.2.1 = σf) (hX2 : X.2.2.2 = .inl (some (.int r))) {k177 : St → Nat → Nat → Int32 → Int32 → Int32 → Int64 → Int32 → Int32 → Option (St × Int32)} (hk177 : ∀ (σ : St) (x0 : Nat) (x1 : Nat) (x2 : Int32) (x3 : Int32) (x4 : Int32) (x7 : Int64) (x11 : Int32) (x12 : Int32), k177 σ x0 x1 x2 x3 x4 x7 x11 x12 = some (σf, r) → G MtX5_takeOff X σ 177 [(0, rv x0), (1, rv x1), (2, .int x2), (3, .int x3), (4, .int x4), (7, .long x7), (11, .int x11), (12, .int x12)] []) : ∀ (n : Nat) (σ : St) (x0 : Nat) (x1 : Nat) (x2 : Int32) (x3 : Int32) (x4 : Int32) (x7 : Int64) (x11 : Int32) (x12 : Int32) (x13 : Int32) (x14 : Int32), fX5_takeOff_200 k177 n σ x0 x1 x2 x3 x4 x7 x11 x12 x13 x14 = some (σf, r) → G MtX5_takeOff X σ 200 [(0, rv x0), (1, rv x1), (2, .int x2), (3, .int x3), (4, .int x4), (7, .long x7), (11, .int x11), (12, .int x12), (13, .int x13), (14, .int x14)] [] := by
  intro n
  induction n with
  | zero => intro σ x0 x1 x2 x3 x4 x7 x11 x12 x13 x14 hf; cases hf
  | succ n ih =>
    intro σ x0 x1 x2 x3 x4 x7 x11 x12 x13 x14 hf
    rw [fX5_takeOff_200] at hf
    refine g_iload (j := 9) dX5_takeOff_200 rfl ?_
    refine g_iload_n (j := 3) dX5_takeOff_202 rfl rfl ?_
    refine g_icmp_ge (tgt := 262) dX5_takeOff_203 (by decide) (fun c1 => ?_) (fun c1 => ?_)
    · rw [if_pos c1] at hf
      refine g_iload (j := 6) dX5_takeOff_262 rfl ?_
      refine g_iload (j := 8) dX5_takeOff_264 rfl ?_
      refine g_iadd dX5_takeOff_266 ?_
      obtain ⟨v2, ev2, hf⟩ := nm_el hf
      refine g_topI ev2 ?_
      refine g_istore (i := 11) (L' := [(11, .int v2), (0, rv x0), (1, rv x1), (2, .int x2), (3, .int x3), (4, .int x4), (7, .long x7), (12, .int x12), (13, .int x13), (14, .int x14)]) dX5_takeOff_267 (Nat.le_of_ble_eq_true rfl) rfl ?_
      obtain ⟨v3, ev3, hf⟩ := nm_el hf
      refine g_iinc (L' := [(12, .int v3), (11, .int v2), (0, rv x0), (1, rv x1), (2, .int x2), (3, .int x3), (4, .int x4), (7, .long x7), (13, .int x13), (14, .int x14)]) (j := 7) (v := v3) dX5_takeOff_269 rfl (by rw [ev3]; rfl) (Nat.le_of_ble_eq_true rfl) rfl ?_
      refine g_goto (tgt := 177) dX5_takeOff_272 (by decide) ?_
      refine g_sub (L' := [(0, rv x0), (1, rv x1), (2, .int x2), (3, .int x3), (4, .int x4), (7, .long x7), (11, .int v2), (12, .int v3)]) [2, 3, 4, 5, 6, 7, 1, 0] rfl ?_
      exact hk177 _ _ _ _ _ _ _ _ _ hf
    · rw [if_neg c1] at hf
      refine g_aload_n (j := 1) dX5_takeOff_206 rfl rfl ?_
      refine g_iload_n (j := 2) dX5_takeOff_207 rfl rfl ?_
      refine g_iload (j := 9) dX5_takeOff_208 rfl ?_
      refine g_iadd dX5_takeOff_210 ?_
      obtain ⟨v4, ev4, hf⟩ := ob hf
      refine g_iald dX5_takeOff_211 ev4 ?_
      refine g_aload_n (j := 0) dX5_takeOff_212 rfl rfl ?_
      obtain ⟨v5, ev5, hf⟩ := ob hf
      refine g_getF dX5_takeOff_213 ev5 t_160 hin9 hc9 (by decide) rfl ?_
      obtain ⟨v6, ev6, hf⟩ := ob hf
      refine g_getFN dX5_takeOff_216 ev6 t_57 hin7 hc7 (by decide) rfl ?_
      refine g_iload (j := 9) dX5_takeOff_219 rfl ?_
      obtain ⟨v7, ev7, hf⟩ := ob hf
      refine g_iald dX5_takeOff_221 ev7 ?_
      refine g_iadd dX5_takeOff_222 ?_
      refine g_iload (j := 8) dX5_takeOff_223 rfl ?_
      refine g_iadd dX5_takeOff_225 ?_
      obtain ⟨v8, ev8, hf⟩ := nm_el hf
      refine g_topI ev8 ?_
      refine g_istore (i := 15) (L' := [(15, .int v8), (0, rv x0), (1, rv x1), (2, .int x2), (3, .int x3), (4, .int x4), (7, .long x7), (11, .int x11), (12, .int x12), (13, .int x13), (14, .int x14)]) dX5_takeOff_226 (Nat.le_of_ble_eq_true rfl) rfl ?_
      refine g_iload (j := 0) dX5_takeOff_228 rfl ?_
      refine g_ldc (v := 1000000000) dX5_takeOff_230 t_933 ?_
      refine g_icmp_lt (tgt := 239) dX5_takeOff_232 (by decide) (fun c9 => ?_) (fun c9 => ?_)
      · rw [if_pos c9] at hf
        refine g_iconst (v := 0) dX5_takeOff_239 (by decide) ?_
        refine g_sub (L' := [(0, rv x0), (1, rv x1), (2, .int x2), (3, .int x3), (4, .int x4), (7, .long x7), (11, .int x11), (12, .int x12), (14, .int x14), (15, .int v8)]) [1, 2, 3, 4, 5, 6, 7, 8, 10, 0] rfl ?_
        exact bX5_takeOff_240 hX1 hX2 hk177 (fun σ x0 x1 x2 x3 x4 x7 x11 x12 x13 x14 hf => ih σ x0 x1 x2 x3 x4 x7 x11 x12 x13 x14 hf) hf
      · rw [if_neg c9] at hf
        refine g_iconst (v := 1) dX5_takeOff_235 (by decide) ?_
        refine g_goto (tgt := 240) dX5_takeOff_236 (by decide) ?_
        refine g_sub (L' := [(0, rv x0), (1, rv x1), (2, .int x2), (3, .int x3), (4, .int x4), (7, .long x7), (11, .int x11), (12, .int x12), (14, .int x14), (15, .int v8)]) [1, 2, 3, 4, 5, 6, 7, 8, 10, 0] rfl ?_
        exact bX5_takeOff_240 hX1 hX2 hk177 (fun σ x0 x1 x2 x3 x4 x7 x11 x12 x13 x14 hf => ih σ x0 x1 x2 x3 x4 x7 x11 x12 x13 x14 hf) hf

set_option maxRecDepth 100000 in
set_option maxHeartbeats 4000000 in
theorem bX5_takeOff_275 {X : Xt} {σf : St} {r : Int32} (hX1 : X.2.2.1 = σf) (hX2 : X.2.2.2 = .inl (some (.int r))) {σ : St} {x1 : Nat} {x4 : Int32} {x7 : Int64} {x11 : Int32} (hf : fX5_takeOff_275 σ x1 x4 x7 x11 = some (σf, r)) : G MtX5_takeOff X σ 275 [(1, rv x1), (4, .int x4), (7, .long x7), (11, .int x11)] [] := by
  unfold fX5_takeOff_275 at hf
  refine g_aload_n (j := 0) dX5_takeOff_275 rfl rfl ?_
  refine g_iload (j := 1) dX5_takeOff_276 rfl ?_
  refine g_iload (j := 3) dX5_takeOff_278 rfl ?_
  obtain ⟨σ1, eσ1, hf⟩ := ob hf
  refine g_iast dX5_takeOff_280 eσ1 ?_
  refine g_lload (j := 2) dX5_takeOff_281 rfl ?_
  refine g_l2i dX5_takeOff_283 rfl ?_
  exact g_iret dX5_takeOff_284 rfl rfl hX2 hX1 hf

set_option maxRecDepth 100000 in
set_option maxHeartbeats 4000000 in
theorem bX5_takeOff_177 {X : Xt} {σf : St} {r : Int32} (hX1 : X.2.2.1 = σf) (hX2 : X.2.2.2 = .inl (some (.int r))) : ∀ (n : Nat) (σ : St) (x0 : Nat) (x1 : Nat) (x2 : Int32) (x3 : Int32) (x4 : Int32) (x7 : Int64) (x11 : Int32) (x12 : Int32), fX5_takeOff_177 n σ x0 x1 x2 x3 x4 x7 x11 x12 = some (σf, r) → G MtX5_takeOff X σ 177 [(0, rv x0), (1, rv x1), (2, .int x2), (3, .int x3), (4, .int x4), (7, .long x7), (11, .int x11), (12, .int x12)] [] := by
  intro n
  induction n with
  | zero => intro σ x0 x1 x2 x3 x4 x7 x11 x12 hf; cases hf
  | succ n ih =>
    intro σ x0 x1 x2 x3 x4 x7 x11 x12 hf
    rw [fX5_takeOff_177] at hf
    refine g_iload (j := 7) dX5_takeOff_177 rfl ?_
    refine g_iconst (v := 4) dX5_takeOff_179 (by decide) ?_
    refine g_icmp_ge (tgt := 275) dX5_takeOff_180 (by decide) (fun c1 => ?_) (fun c1 => ?_)
    · rw [if_pos c1] at hf
      refine g_sub (L' := [(1, rv x1), (4, .int x4), (7, .long x7), (11, .int x11)]) [1, 4, 5, 6] rfl ?_
      exact bX5_takeOff_275 hX1 hX2 hf
    · rw [if_neg c1] at hf
      refine g_iload (j := 6) dX5_takeOff_183 rfl ?_
      refine g_if_ge (tgt := 275) dX5_takeOff_185 (by decide) (fun c2 => ?_) (fun c2 => ?_)
      · rw [if_pos c2] at hf
        refine g_sub (L' := [(1, rv x1), (4, .int x4), (7, .long x7), (11, .int x11)]) [1, 4, 5, 6] rfl ?_
        exact bX5_takeOff_275 hX1 hX2 hf
      · rw [if_neg c2] at hf
        refine g_lload (j := 5) dX5_takeOff_188 rfl ?_
        refine g_lconst (v := 1) dX5_takeOff_190 (by decide) ?_
        refine g_lsub dX5_takeOff_191 ?_
        obtain ⟨v3, ev3, hf⟩ := nm_el hf
        refine g_topL ev3 ?_
        refine g_lstore (i := 7) (L' := [(7, .long v3), (0, rv x0), (1, rv x1), (2, .int x2), (3, .int x3), (4, .int x4), (11, .int x11), (12, .int x12)]) dX5_takeOff_192 (Nat.le_of_ble_eq_true rfl) rfl ?_
        refine g_iconst (v := 0) dX5_takeOff_194 (by decide) ?_
        refine g_istore (i := 13) (L' := [(13, .int 0), (7, .long v3), (0, rv x0), (1, rv x1), (2, .int x2), (3, .int x3), (4, .int x4), (11, .int x11), (12, .int x12)]) dX5_takeOff_195 (Nat.le_of_ble_eq_true rfl) rfl ?_
        refine g_iconst (v := 0) dX5_takeOff_197 (by decide) ?_
        refine g_istore (i := 14) (L' := [(14, .int 0), (13, .int 0), (7, .long v3), (0, rv x0), (1, rv x1), (2, .int x2), (3, .int x3), (4, .int x4), (11, .int x11), (12, .int x12)]) dX5_takeOff_198 (Nat.le_of_ble_eq_true rfl) rfl ?_
        refine g_sub (L' := [(0, rv x0), (1, rv x1), (2, .int x2), (3, .int x3), (4, .int x4), (7, .long v3), (11, .int x11), (12, .int x12), (13, .int 0), (14, .int 0)]) [3, 4, 5, 6, 7, 2, 8, 9, 1, 0] rfl ?_
        exact bX5_takeOff_200 hX1 hX2 (fun σ x0 x1 x2 x3 x4 x7 x11 x12 hf => ih σ x0 x1 x2 x3 x4 x7 x11 x12 hf) FU _ _ _ _ _ _ _ _ _ _ _ hf

set_option maxRecDepth 100000 in
set_option maxHeartbeats 4000000 in
theorem bX5_takeOff_94 {X : Xt} {σf : St} {r : Int32} (hX1 : X.2.2.1 = σf) (hX2 : X.2.2.2 = .inl (some (.int r))) : ∀ (n : Nat) (σ : St) (x0 : Nat) (x1 : Nat) (x2 : Int32) (x3 : Int32) (x4 : Int32) (x7 : Int64) (x9 : Int64) (x11 : Int32), fX5_takeOff_94 n σ x0 x1 x2 x3 x4 x7 x9 x11 = some (σf, r) → G MtX5_takeOff X σ 94 [(0, rv x0), (1, rv x1), (2, .int x2), (3, .int x3), (4, .int x4), (7, .long x7), (9, .long x9), (11, .int x11)] [] := by
  intro n
  induction n with
  | zero => intro σ x0 x1 x2 x3 x4 x7 x9 x11 hf; cases hf
  | succ n ih =>
    intro σ x0 x1 x2 x3 x4 x7 x9 x11 hf
    rw [fX5_takeOff_94] at hf
    refine g_iload (j := 7) dX5_takeOff_94 rfl ?_
    refine g_iload_n (j := 3) dX5_takeOff_96 rfl rfl ?_
    refine g_icmp_ge (tgt := 163) dX5_takeOff_97 (by decide) (fun c1 => ?_) (fun c1 => ?_)
    · rw [if_pos c1] at hf
      refine g_aload_n (j := 1) dX5_takeOff_163 rfl rfl ?_
      refine g_iload (j := 4) dX5_takeOff_164 rfl ?_
      obtain ⟨v2, ev2, hf⟩ := ob hf
      refine g_iald dX5_takeOff_166 ev2 ?_
      refine g_i2l dX5_takeOff_167 rfl ?_
      refine g_lload (j := 6) dX5_takeOff_168 rfl ?_
      refine g_ladd dX5_takeOff_170 ?_
      refine g_l2i dX5_takeOff_171 rfl ?_
      obtain ⟨v3, ev3, hf⟩ := nm_el hf
      refine g_topI ev3 ?_
      refine g_istore (i := 11) (L' := [(11, .int v3), (0, rv x0), (1, rv x1), (2, .int x2), (3, .int x3), (4, .int x4), (7, .long x7), (9, .long x9)]) dX5_takeOff_172 (Nat.le_of_ble_eq_true rfl) rfl ?_
      refine g_iconst (v := 0) dX5_takeOff_174 (by decide) ?_
      refine g_istore (i := 12) (L' := [(12, .int 0), (11, .int v3), (0, rv x0), (1, rv x1), (2, .int x2), (3, .int x3), (4, .int x4), (7, .long x7), (9, .long x9)]) dX5_takeOff_175 (Nat.le_of_ble_eq_true rfl) rfl ?_
      refine g_sub (L' := [(0, rv x0), (1, rv x1), (2, .int x2), (3, .int x3), (4, .int x4), (7, .long x7), (11, .int v3), (12, .int 0)]) [2, 3, 4, 5, 6, 7, 1, 0] rfl ?_
      exact bX5_takeOff_177 hX1 hX2 FU _ _ _ _ _ _ _ _ _ hf
    · rw [if_neg c1] at hf
      refine g_lload (j := 6) dX5_takeOff_100 rfl ?_
      refine g_aload_n (j := 1) dX5_takeOff_102 rfl rfl ?_
      refine g_iload_n (j := 2) dX5_takeOff_103 rfl rfl ?_
      refine g_iload (j := 7) dX5_takeOff_104 rfl ?_
      refine g_iadd dX5_takeOff_106 ?_
      obtain ⟨v4, ev4, hf⟩ := ob hf
      refine g_iald dX5_takeOff_107 ev4 ?_
      refine g_i2l dX5_takeOff_108 rfl ?_
      refine g_lload (j := 5) dX5_takeOff_109 rfl ?_
      refine g_aload_n (j := 0) dX5_takeOff_111 rfl rfl ?_
      obtain ⟨v5, ev5, hf⟩ := ob hf
      refine g_getF dX5_takeOff_112 ev5 t_160 hin9 hc9 (by decide) rfl ?_
      obtain ⟨v6, ev6, hf⟩ := ob hf
      refine g_getFN dX5_takeOff_115 ev6 t_57 hin7 hc7 (by decide) rfl ?_
      refine g_iload (j := 7) dX5_takeOff_118 rfl ?_
      obtain ⟨v7, ev7, hf⟩ := ob hf
      refine g_iald dX5_takeOff_120 ev7 ?_
      refine g_i2l dX5_takeOff_121 rfl ?_
      refine g_lmul dX5_takeOff_122 ?_
      refine g_lsub dX5_takeOff_123 ?_
      refine g_ladd dX5_takeOff_124 ?_
      obtain ⟨v8, ev8, hf⟩ := nm_el hf
      refine g_topL ev8 ?_
      refine g_lstore (i := 9) (L' := [(9, .long v8), (0, rv x0), (1, rv x1), (2, .int x2), (3, .int x3), (4, .int x4), (7, .long x7), (11, .int x11)]) dX5_takeOff_125 (Nat.le_of_ble_eq_true rfl) rfl ?_
      refine g_lload (j := 0) dX5_takeOff_127 rfl ?_
      refine g_ldc2 (v := 1000000000) dX5_takeOff_129 t_939 ?_
      obtain ⟨σ9, v10, eσ9, hf⟩ := cb_el hf
      refine g_callS_l dX5_takeOff_132 (wJ9_floorMod_f86c9 _ eσ9) (okJ9_floorMod_f86c9 _ (by decide) (by decide)) t_944 t_945 rfl (Nat.le_trans (cat_le _) (Nat.le_of_ble_eq_true rfl)) rfl ?_
      refine g_lstore (i := 12) (L' := [(12, .long v10), (9, .long v8), (0, rv x0), (1, rv x1), (2, .int x2), (3, .int x3), (4, .int x4), (7, .long x7), (11, .int x11)]) dX5_takeOff_135 (Nat.le_of_ble_eq_true rfl) rfl ?_
      refine g_aload_n (j := 3) dX5_takeOff_137 rfl rfl ?_
      refine g_iload_n (j := 4) dX5_takeOff_138 rfl rfl ?_
      refine g_iload (j := 8) dX5_takeOff_139 rfl ?_
      refine g_iadd dX5_takeOff_141 ?_
      refine g_lload (j := 0) dX5_takeOff_142 rfl ?_
      refine g_l2i dX5_takeOff_144 rfl ?_
      obtain ⟨σ11, eσ11, hf⟩ := ob hf
      refine g_iast dX5_takeOff_145 eσ11 ?_
      refine g_lload (j := 1) dX5_takeOff_146 rfl ?_
      refine g_lload (j := 0) dX5_takeOff_148 rfl ?_
      refine g_lsub dX5_takeOff_150 ?_
      refine g_ldc2 (v := 1000000000) dX5_takeOff_151 t_939 ?_
      refine g_ldiv dX5_takeOff_154 (by decide) ?_
      obtain ⟨v12, ev12, hf⟩ := nm_el hf
      refine g_topL ev12 ?_
      refine g_lstore (i := 9) (L' := [(9, .long v12), (12, .long v10), (0, rv x0), (1, rv x1), (2, .int x2), (3, .int x3), (4, .int x4), (7, .long x7), (11, .int x11)]) dX5_takeOff_155 (Nat.le_of_ble_eq_true rfl) rfl ?_
      obtain ⟨v13, ev13, hf⟩ := nm_el hf
      refine g_iinc (L' := [(11, .int v13), (9, .long v12), (12, .long v10), (0, rv x0), (1, rv x1), (2, .int x2), (3, .int x3), (4, .int x4), (7, .long x7)]) (j := 8) (v := v13) dX5_takeOff_157 rfl (by rw [ev13]; rfl) (Nat.le_of_ble_eq_true rfl) rfl ?_
      refine g_goto (tgt := 94) dX5_takeOff_160 (by decide) ?_
      refine g_sub (L' := [(0, rv x0), (1, rv x1), (2, .int x2), (3, .int x3), (4, .int x4), (7, .long x7), (9, .long v12), (11, .int v13)]) [3, 4, 5, 6, 7, 8, 1, 0] rfl ?_
      exact ih _ _ _ _ _ _ _ _ _ hf

set_option maxRecDepth 100000 in
set_option maxHeartbeats 4000000 in
theorem wX5_takeOff (l : Launch) {σ σf : St} {x0 : Nat} {x1 : Nat} {x2 : Int32} {r : Int32} (hf : fX5_takeOff σ x0 x1 x2 = some (σf, r)) : Con MtX5_takeOff yX5_takeOff l σ [rv x0, rv x1, .int x2] σf (some (.int r)) := by
  refine Con.of (by decide +kernel) rfl (fun h => absurd (show false = true from h) (by decide)) (by simp only [sl_n, sl_r, sl_i, sl_l]; exact Nat.le_of_ble_eq_true rfl) ?_
  rw [show lv_args 0 [rv x0, rv x1, .int x2] = [(0, rv x0), (1, rv x1), (2, .int x2)] by simp only [la_n, la_r, la_i, la_l] <;> rfl]
  have hX1 : ((l, σ, σf, .inl (some (.int r))) : Xt).2.2.1 = σf := rfl
  have hX2 : ((l, σ, σf, .inl (some (.int r))) : Xt).2.2.2 = .inl (some (.int r)) := rfl
  unfold fX5_takeOff at hf
  refine g_aload_n (j := 0) dX5_takeOff_0 rfl rfl ?_
  obtain ⟨v1, ev1, hf⟩ := ob hf
  refine g_getF dX5_takeOff_1 ev1 t_160 hin9 hc9 (by decide) rfl ?_
  obtain ⟨v2, ev2, hf⟩ := ob hf
  refine g_getIN dX5_takeOff_4 ev2 t_59 hin7 hc7 (by decide) rfl ?_
  refine g_istore_n (i := 3) (L' := [(3, .int v2), (0, rv x0), (1, rv x1), (2, .int x2)]) dX5_takeOff_7 rfl (Nat.le_of_ble_eq_true rfl) rfl ?_
  refine g_iload_n (j := 3) dX5_takeOff_8 rfl rfl ?_
  refine g_iload_n (j := 0) dX5_takeOff_9 rfl rfl ?_
  refine g_iadd dX5_takeOff_10 ?_
  obtain ⟨v3, ev3, hf⟩ := nm_el hf
  refine g_topI ev3 ?_
  refine g_istore (i := 4) (L' := [(4, .int v3), (3, .int v2), (0, rv x0), (1, rv x1), (2, .int x2)]) dX5_takeOff_11 (Nat.le_of_ble_eq_true rfl) rfl ?_
  refine g_iload_n (j := 1) dX5_takeOff_13 rfl rfl ?_
  refine g_iconst (v := 1) dX5_takeOff_14 (by decide) ?_
  refine g_icmp_lt (tgt := 44) dX5_takeOff_15 (by decide) (fun c4 => ?_) (fun c4 => ?_)
  · rw [if_pos c4] at hf
    refine g_iconst (v := 0) dX5_takeOff_44 (by decide) ?_
    exact g_iret dX5_takeOff_45 rfl rfl hX2 hX1 hf
  · rw [if_neg c4] at hf
    refine g_iload_n (j := 4) dX5_takeOff_18 rfl rfl ?_
    refine g_if_lt (tgt := 44) dX5_takeOff_19 (by decide) (fun c5 => ?_) (fun c5 => ?_)
    · rw [if_pos c5] at hf
      refine g_iconst (v := 0) dX5_takeOff_44 (by decide) ?_
      exact g_iret dX5_takeOff_45 rfl rfl hX2 hX1 hf
    · rw [if_neg c5] at hf
      refine g_iload (j := 0) dX5_takeOff_22 rfl ?_
      refine g_aload_n (j := 3) dX5_takeOff_24 rfl rfl ?_
      obtain ⟨v6, ev6, hf⟩ := ob hf
      refine g_alen dX5_takeOff_25 ev6 ?_
      refine g_icmp_ge (tgt := 44) dX5_takeOff_26 (by decide) (fun c7 => ?_) (fun c7 => ?_)
      · rw [if_pos c7] at hf
        refine g_iconst (v := 0) dX5_takeOff_44 (by decide) ?_
        exact g_iret dX5_takeOff_45 rfl rfl hX2 hX1 hf
      · rw [if_neg c7] at hf
        refine g_aload_n (j := 2) dX5_takeOff_29 rfl rfl ?_
        obtain ⟨v8, ev8, hf⟩ := ob hf
        refine g_getF dX5_takeOff_30 ev8 t_160 hin9 hc9 (by decide) rfl ?_
        obtain ⟨v9, ev9, hf⟩ := ob hf
        refine g_getFN dX5_takeOff_33 ev9 t_57 hin7 hc7 (by decide) rfl ?_
        refine g_iload_n (j := 1) dX5_takeOff_36 rfl rfl ?_
        refine g_iconst (v := 1) dX5_takeOff_37 (by decide) ?_
        refine g_isub dX5_takeOff_38 ?_
        obtain ⟨v10, ev10, hf⟩ := ob hf
        refine g_iald dX5_takeOff_39 ev10 ?_
        refine g_iconst (v := 1) dX5_takeOff_40 (by decide) ?_
        refine g_icmp_ge (tgt := 46) dX5_takeOff_41 (by decide) (fun c11 => ?_) (fun c11 => ?_)
        · rw [if_pos c11] at hf
          refine g_aload_n (j := 3) dX5_takeOff_46 rfl rfl ?_
          refine g_iload (j := 0) dX5_takeOff_47 rfl ?_
          obtain ⟨v12, ev12, hf⟩ := ob hf
          refine g_iald dX5_takeOff_49 ev12 ?_
          refine g_i2l dX5_takeOff_50 rfl ?_
          refine g_ldc2 (v := 1000000000) dX5_takeOff_51 t_939 ?_
          refine g_lmul dX5_takeOff_54 ?_
          refine g_aload_n (j := 3) dX5_takeOff_55 rfl rfl ?_
          refine g_iload (j := 0) dX5_takeOff_56 rfl ?_
          refine g_iconst (v := 1) dX5_takeOff_58 (by decide) ?_
          refine g_isub dX5_takeOff_59 ?_
          obtain ⟨v13, ev13, hf⟩ := ob hf
          refine g_iald dX5_takeOff_60 ev13 ?_
          refine g_i2l dX5_takeOff_61 rfl ?_
          refine g_ladd dX5_takeOff_62 ?_
          obtain ⟨v14, ev14, hf⟩ := nm_el hf
          refine g_topL ev14 ?_
          refine g_lstore (i := 5) (L' := [(5, .long v14), (4, .int v3), (3, .int v2), (0, rv x0), (1, rv x1), (2, .int x2)]) dX5_takeOff_63 (Nat.le_of_ble_eq_true rfl) rfl ?_
          refine g_lload (j := 0) dX5_takeOff_65 rfl ?_
          refine g_aload_n (j := 3) dX5_takeOff_67 rfl rfl ?_
          obtain ⟨v15, ev15, hf⟩ := ob hf
          refine g_getF dX5_takeOff_68 ev15 t_160 hin9 hc9 (by decide) rfl ?_
          obtain ⟨v16, ev16, hf⟩ := ob hf
          refine g_getFN dX5_takeOff_71 ev16 t_57 hin7 hc7 (by decide) rfl ?_
          refine g_iload_n (j := 2) dX5_takeOff_74 rfl rfl ?_
          refine g_iconst (v := 1) dX5_takeOff_75 (by decide) ?_
          refine g_isub dX5_takeOff_76 ?_
          obtain ⟨v17, ev17, hf⟩ := ob hf
          refine g_iald dX5_takeOff_77 ev17 ?_
          refine g_i2l dX5_takeOff_78 rfl ?_
          obtain ⟨_, h18, hf⟩ := ob hf
          refine g_ldiv dX5_takeOff_79 (ckDL_el h18) ?_
          refine g_ldc2 (v := 999999999) dX5_takeOff_80 t_940 ?_
          refine g_mminL dX5_takeOff_83 t_941 t_942 t_15 t_943 (by decide) (by decide) (Nat.le_of_ble_eq_true rfl) ?_
          obtain ⟨v19, ev19, hf⟩ := nm_el hf
          refine g_topL ev19 ?_
          refine g_lstore (i := 7) (L' := [(7, .long v19), (5, .long v14), (4, .int v3), (3, .int v2), (0, rv x0), (1, rv x1), (2, .int x2)]) dX5_takeOff_86 (Nat.le_of_ble_eq_true rfl) rfl ?_
          refine g_lconst (v := 0) dX5_takeOff_88 (by decide) ?_
          refine g_lstore (i := 9) (L' := [(9, .long 0), (7, .long v19), (5, .long v14), (4, .int v3), (3, .int v2), (0, rv x0), (1, rv x1), (2, .int x2)]) dX5_takeOff_89 (Nat.le_of_ble_eq_true rfl) rfl ?_
          refine g_iconst (v := 0) dX5_takeOff_91 (by decide) ?_
          refine g_istore (i := 11) (L' := [(11, .int 0), (9, .long 0), (7, .long v19), (5, .long v14), (4, .int v3), (3, .int v2), (0, rv x0), (1, rv x1), (2, .int x2)]) dX5_takeOff_92 (Nat.le_of_ble_eq_true rfl) rfl ?_
          refine g_sub (L' := [(0, rv x0), (1, rv x1), (2, .int x2), (3, .int v2), (4, .int v3), (7, .long v19), (9, .long 0), (11, .int 0)]) [6, 7, 8, 5, 4, 2, 1, 0] rfl ?_
          exact bX5_takeOff_94 hX1 hX2 FU _ _ _ _ _ _ _ _ _ hf
        · rw [if_neg c11] at hf
          refine g_iconst (v := 0) dX5_takeOff_44 (by decide) ?_
          exact g_iret dX5_takeOff_45 rfl rfl hX2 hX1 hf

theorem okX5_takeOff (M : Mt) (h1 : 2 + 1 ≤ M.2.2.2.2.1) (h2 : 8 + (16 + 11) + 109 ≤ M.2.2.2.2.2.1) : CallOk M MtX5_takeOff yX5_takeOff 2 := ⟨t_938, h1, h2, ⟨by decide, by decide⟩, by decide +kernel, t_9⟩
abbrev MtX5_divide : Mt := (cX5_divide, 9, "ExactlySaid$Reckoner", none, 3, 167, false)
set_option maxRecDepth 100000 in
set_option maxHeartbeats 4000000 in
theorem bX5_divide_187 {X : Xt} {σf : St} {r : Unit} (hX1 : X.2.2.1 = σf) (hX2 : X.2.2.2 = .inl (none)) : ∀ (n : Nat) (σ : St) (x0 : Nat) (x3 : Nat) (x4 : Nat) (x5 : Int32) (x7 : Int32) (x8 : Int32), fX5_divide_187 n σ x0 x3 x4 x5 x7 x8 = some (σf, r) → G MtX5_divide X σ 187 [(0, rv x0), (3, rv x3), (4, rv x4), (5, .int x5), (7, .int x7), (8, .int x8)] [] := by
  intro n
  induction n with
  | zero => intro σ x0 x3 x4 x5 x7 x8 hf; cases hf
  | succ n ih =>
    intro σ x0 x3 x4 x5 x7 x8 hf
    rw [fX5_divide_187] at hf
    refine g_iload (j := 5) dX5_divide_187 rfl ?_
    refine g_if_lt (tgt := 216) dX5_divide_189 (by decide) (fun c1 => ?_) (fun c1 => ?_)
    · rw [if_pos c1] at hf
      refine g_aload_n (j := 1) dX5_divide_216 rfl rfl ?_
      refine g_iload (j := 4) dX5_divide_217 rfl ?_
      obtain ⟨σ2, eσ2, hf⟩ := ob hf
      refine g_putI dX5_divide_219 eσ2 (Or.inr ⟨_, t_59⟩) hin7 hc7 (by decide) hty7 hnm7 (Or.inl rfl) rfl rfl rfl ?_
      refine g_aload_n (j := 1) dX5_divide_222 rfl rfl ?_
      obtain ⟨_, h5, hf⟩ := ob hf
      obtain ⟨σ3, v4, eσ3, hf⟩ := cb_el hf
      refine g_callVN_v dX5_divide_223 (wX3_trim _ eσ3) (okX3_trim _ (by decide) (by decide)) (ckK_el h5) hc7 t_947 t_919 s_X3_trim rfl (Nat.le_trans (cat_le _) (Nat.le_of_ble_eq_true rfl)) rfl ?_
      refine g_aload (j := 2) dX5_divide_226 rfl ?_
      obtain ⟨_, h8, hf⟩ := ob hf
      obtain ⟨σ6, v7, eσ6, hf⟩ := cb_el hf
      refine g_callVN_v dX5_divide_228 (wX3_trim _ eσ6) (okX3_trim _ (by decide) (by decide)) (ckK_el h8) hc7 t_947 t_919 s_X3_trim rfl (Nat.le_trans (cat_le _) (Nat.le_of_ble_eq_true rfl)) rfl ?_
      refine g_aload (j := 2) dX5_divide_231 rfl ?_
      refine g_iload (j := 3) dX5_divide_233 rfl ?_
      obtain ⟨_, h11, hf⟩ := ob hf
      obtain ⟨σ9, v10, eσ9, hf⟩ := cb_el hf
      refine g_callVN_i dX5_divide_235 (wX3_lower _ eσ9) (okX3_lower _ (by decide) (by decide)) (ckK_el h11) hc7 t_871 t_873 s_X3_lower rfl (Nat.le_trans (cat_le _) (Nat.le_of_ble_eq_true rfl)) rfl ?_
      refine g_pop dX5_divide_238 rfl ?_
      exact g_vret dX5_divide_239 rfl hX2 hX1 hf
    · rw [if_neg c1] at hf
      refine g_aload_n (j := 1) dX5_divide_192 rfl rfl ?_
      obtain ⟨v12, ev12, hf⟩ := ob hf
      refine g_getFN dX5_divide_193 ev12 t_57 hin7 hc7 (by decide) rfl ?_
      refine g_iload (j := 5) dX5_divide_196 rfl ?_
      refine g_aload_n (j := 0) dX5_divide_198 rfl rfl ?_
      refine g_aload (j := 2) dX5_divide_199 rfl ?_
      obtain ⟨v13, ev13, hf⟩ := ob hf
      refine g_getFN dX5_divide_201 ev13 t_57 hin7 hc7 (by decide) rfl ?_
      refine g_iload (j := 5) dX5_divide_204 rfl ?_
      obtain ⟨_, h16, hf⟩ := ob hf
      obtain ⟨σ14, v15, eσ14, hf⟩ := cb_el hf
      refine g_callV_i dX5_divide_206 (wX5_takeOff _ eσ14) (okX5_takeOff _ (by decide) (by decide)) (ckK_el h16) hc9 t_935 t_937 s_X5_takeOff rfl (Nat.le_trans (cat_le _) (Nat.le_of_ble_eq_true rfl)) rfl ?_
      obtain ⟨σ17, eσ17, hf⟩ := ob hf
      refine g_iast dX5_divide_209 eσ17 ?_
      obtain ⟨v18, ev18, hf⟩ := nm_el hf
      refine g_iinc (L' := [(8, .int v18), (0, rv x0), (3, rv x3), (4, rv x4), (5, .int x5), (7, .int x7)]) (j := 5) (v := v18) dX5_divide_210 rfl (by rw [ev18]; rfl) (Nat.le_of_ble_eq_true rfl) rfl ?_
      refine g_goto (tgt := 187) dX5_divide_213 (by decide) ?_
      refine g_sub (L' := [(0, rv x0), (3, rv x3), (4, rv x4), (5, .int x5), (7, .int x7), (8, .int v18)]) [1, 2, 3, 4, 5, 0] rfl ?_
      exact ih _ _ _ _ _ _ _ hf

set_option maxRecDepth 100000 in
set_option maxHeartbeats 4000000 in
theorem bX5_divide_181 {X : Xt} {σf : St} {r : Unit} (hX1 : X.2.2.1 = σf) (hX2 : X.2.2.2 = .inl (none)) {σ : St} {x0 : Nat} {x3 : Nat} {x4 : Nat} {x5 : Int32} {x7 : Int32} (hf : fX5_divide_181 σ x0 x3 x4 x5 x7 = some (σf, r)) : G MtX5_divide X σ 181 [(0, rv x0), (3, rv x3), (4, rv x4), (5, .int x5), (7, .int x7)] [] := by
  unfold fX5_divide_181 at hf
  refine g_iload (j := 4) dX5_divide_181 rfl ?_
  refine g_iconst (v := 1) dX5_divide_183 (by decide) ?_
  refine g_isub dX5_divide_184 ?_
  obtain ⟨v1, ev1, hf⟩ := nm_el hf
  refine g_topI ev1 ?_
  refine g_istore (i := 8) (L' := [(8, .int v1), (0, rv x0), (3, rv x3), (4, rv x4), (5, .int x5), (7, .int x7)]) dX5_divide_185 (Nat.le_of_ble_eq_true rfl) rfl ?_
  refine g_sub (L' := [(0, rv x0), (3, rv x3), (4, rv x4), (5, .int x5), (7, .int x7), (8, .int v1)]) [1, 2, 3, 4, 5, 0] rfl ?_
  exact bX5_divide_187 hX1 hX2 FU _ _ _ _ _ _ _ hf

set_option maxRecDepth 100000 in
set_option maxHeartbeats 4000000 in
theorem bX5_divide_138 {X : Xt} {σf : St} {r : Unit} (hX1 : X.2.2.1 = σf) (hX2 : X.2.2.2 = .inl (none)) {σ : St} {x0 : Nat} {x3 : Nat} {x4 : Nat} {x5 : Int32} {x6 : Int32} (hf : fX5_divide_138 σ x0 x3 x4 x5 x6 = some (σf, r)) : G MtX5_divide X σ 138 [(0, rv x0), (3, rv x3), (4, rv x4), (5, .int x5), (6, .int x6)] [] := by
  unfold fX5_divide_138 at hf
  refine g_aload (j := 2) dX5_divide_138 rfl ?_
  obtain ⟨v1, ev1, hf⟩ := ob hf
  refine g_getFN dX5_divide_140 ev1 t_57 hin7 hc7 (by decide) rfl ?_
  refine g_iload (j := 4) dX5_divide_143 rfl ?_
  refine g_iconst (v := 0) dX5_divide_145 (by decide) ?_
  obtain ⟨σ2, eσ2, hf⟩ := ob hf
  refine g_iast dX5_divide_146 eσ2 ?_
  refine g_iload (j := 4) dX5_divide_147 rfl ?_
  refine g_aload_n (j := 0) dX5_divide_149 rfl rfl ?_
  obtain ⟨v3, ev3, hf⟩ := ob hf
  refine g_getF dX5_divide_150 ev3 t_160 hin9 hc9 (by decide) rfl ?_
  obtain ⟨v4, ev4, hf⟩ := ob hf
  refine g_getIN dX5_divide_153 ev4 t_59 hin7 hc7 (by decide) rfl ?_
  refine g_isub dX5_divide_156 ?_
  refine g_iconst (v := 1) dX5_divide_157 (by decide) ?_
  refine g_iadd dX5_divide_158 ?_
  obtain ⟨v5, ev5, hf⟩ := nm_el hf
  refine g_topI ev5 ?_
  refine g_istore (i := 7) (L' := [(7, .int v5), (0, rv x0), (3, rv x3), (4, rv x4), (5, .int x5), (6, .int x6)]) dX5_divide_159 (Nat.le_of_ble_eq_true rfl) rfl ?_
  refine g_aload_n (j := 2) dX5_divide_161 rfl rfl ?_
  obtain ⟨v6, ev6, hf⟩ := ob hf
  refine g_getFN dX5_divide_162 ev6 t_57 hin7 hc7 (by decide) rfl ?_
  obtain ⟨v7, ev7, hf⟩ := ob hf
  refine g_alen dX5_divide_165 ev7 ?_
  refine g_iload (j := 0) dX5_divide_166 rfl ?_
  refine g_icmp_ge (tgt := 181) dX5_divide_168 (by decide) (fun c8 => ?_) (fun c8 => ?_)
  · rw [if_pos c8] at hf
    refine g_sub (L' := [(0, rv x0), (3, rv x3), (4, rv x4), (5, .int x5), (7, .int v5)]) [1, 2, 3, 4, 0] rfl ?_
    exact bX5_divide_181 hX1 hX2 hf
  · rw [if_neg c8] at hf
    refine g_aload_n (j := 2) dX5_divide_171 rfl rfl ?_
    refine g_iload (j := 0) dX5_divide_172 rfl ?_
    refine g_iconst (v := 2) dX5_divide_174 (by decide) ?_
    refine g_imul dX5_divide_175 ?_
    obtain ⟨σ9, eσ9, hf⟩ := ob hf
    obtain ⟨a10, ea10, hf⟩ := nm_el hf
    refine g_newa9 dX5_divide_176 eσ9 (by decide) rfl (by decide) rfl t_66 ea10 ?_
    obtain ⟨σ11, eσ11, hf⟩ := ob hf
    refine g_putF dX5_divide_178 eσ11 (Or.inr ⟨_, t_57⟩) hin7 hc7 (by decide) hty7 hnm7 (Or.inl rfl) rfl ?_
    refine g_sub (L' := [(0, rv x0), (3, rv x3), (4, rv x4), (5, .int x5), (7, .int v5)]) [1, 2, 3, 4, 0] rfl ?_
    exact bX5_divide_181 hX1 hX2 hf

set_option maxRecDepth 100000 in
set_option maxHeartbeats 4000000 in
theorem wX5_divide (l : Launch) {σ σf : St} {x0 : Nat} {x1 : Nat} {x2 : Nat} {x3 : Nat} {x4 : Nat} {r : Unit} (hf : fX5_divide σ x0 x1 x2 x3 x4 = some (σf, r)) : Con MtX5_divide yX5_divide l σ [rv x0, rv x1, rv x2, rv x3, rv x4] σf (none) := by
  refine Con.of (by decide +kernel) rfl (fun h => absurd (show false = true from h) (by decide)) (by simp only [sl_n, sl_r, sl_i, sl_l]; exact Nat.le_of_ble_eq_true rfl) ?_
  rw [show lv_args 0 [rv x0, rv x1, rv x2, rv x3, rv x4] = [(0, rv x0), (1, rv x1), (2, rv x2), (3, rv x3), (4, rv x4)] by simp only [la_n, la_r, la_i, la_l] <;> rfl]
  have hX1 : ((l, σ, σf, .inl (none)) : Xt).2.2.1 = σf := rfl
  have hX2 : ((l, σ, σf, .inl (none)) : Xt).2.2.2 = .inl (none) := rfl
  unfold fX5_divide at hf
  refine g_aload (j := 4) dX5_divide_0 rfl ?_
  refine g_aload_n (j := 1) dX5_divide_2 rfl rfl ?_
  obtain ⟨_, h3, hf⟩ := ob hf
  obtain ⟨σ1, v2, eσ1, hf⟩ := cb_el hf
  refine g_callVN_v dX5_divide_3 (wX3_setTo _ eσ1) (okX3_setTo _ (by decide) (by decide)) (ckK_el h3) hc7 t_863 t_865 s_X3_setTo rfl (Nat.le_trans (cat_le _) (Nat.le_of_ble_eq_true rfl)) rfl ?_
  refine g_aload_n (j := 3) dX5_divide_6 rfl rfl ?_
  refine g_iconst (v := 0) dX5_divide_7 (by decide) ?_
  obtain ⟨σ4, eσ4, hf⟩ := ob hf
  refine g_putI dX5_divide_8 eσ4 (Or.inr ⟨_, t_59⟩) hin7 hc7 (by decide) hty7 hnm7 (Or.inl rfl) rfl rfl rfl ?_
  refine g_aload_n (j := 2) dX5_divide_11 rfl rfl ?_
  obtain ⟨v5, ev5, hf⟩ := ob hf
  refine g_getIN dX5_divide_12 ev5 t_59 hin7 hc7 (by decide) rfl ?_
  refine g_if_eq (tgt := 26) dX5_divide_15 (by decide) (fun c6 => ?_) (fun c6 => ?_)
  · rw [if_pos c6] at hf
    exact g_vret dX5_divide_26 rfl hX2 hX1 hf
  · rw [if_neg c6] at hf
    refine g_aload_n (j := 1) dX5_divide_18 rfl rfl ?_
    refine g_aload_n (j := 2) dX5_divide_19 rfl rfl ?_
    obtain ⟨_, h9, hf⟩ := ob hf
    obtain ⟨σ7, v8, eσ7, hf⟩ := cb_el hf
    refine g_callVN_i dX5_divide_20 (wX3_against _ eσ7) (okX3_against _ (by decide) (by decide)) (ckK_el h9) hc7 t_908 t_910 s_X3_against rfl (Nat.le_trans (cat_le _) (Nat.le_of_ble_eq_true rfl)) rfl ?_
    refine g_if_ge (tgt := 27) dX5_divide_23 (by decide) (fun c10 => ?_) (fun c10 => ?_)
    · rw [if_pos c10] at hf
      refine g_aload_n (j := 2) dX5_divide_27 rfl rfl ?_
      obtain ⟨v11, ev11, hf⟩ := ob hf
      refine g_getIN dX5_divide_28 ev11 t_59 hin7 hc7 (by decide) rfl ?_
      refine g_iconst (v := 1) dX5_divide_31 (by decide) ?_
      refine g_icmp_ne (tgt := 57) dX5_divide_32 (by decide) (fun c12 => ?_) (fun c12 => ?_)
      · rw [if_neg c12] at hf
        refine g_ldc (v := 1000000000) dX5_divide_57 t_933 ?_
        refine g_aload_n (j := 2) dX5_divide_59 rfl rfl ?_
        obtain ⟨v13, ev13, hf⟩ := ob hf
        refine g_getFN dX5_divide_60 ev13 t_57 hin7 hc7 (by decide) rfl ?_
        refine g_aload_n (j := 2) dX5_divide_63 rfl rfl ?_
        obtain ⟨v14, ev14, hf⟩ := ob hf
        refine g_getIN dX5_divide_64 ev14 t_59 hin7 hc7 (by decide) rfl ?_
        refine g_iconst (v := 1) dX5_divide_67 (by decide) ?_
        refine g_isub dX5_divide_68 ?_
        obtain ⟨v15, ev15, hf⟩ := ob hf
        refine g_iald dX5_divide_69 ev15 ?_
        refine g_iconst (v := 1) dX5_divide_70 (by decide) ?_
        refine g_iadd dX5_divide_71 ?_
        obtain ⟨_, h16, hf⟩ := ob hf
        refine g_idiv dX5_divide_72 (ckD_el h16) ?_
        obtain ⟨v17, ev17, hf⟩ := nm_el hf
        refine g_topI ev17 ?_
        refine g_istore (i := 5) (L' := [(5, .int v17), (0, rv x0), (1, rv x1), (2, rv x2), (3, rv x3), (4, rv x4)]) dX5_divide_73 (Nat.le_of_ble_eq_true rfl) (by simp [rv_cat]) ?_
        refine g_aload_n (j := 1) dX5_divide_75 rfl rfl ?_
        obtain ⟨v18, ev18, hf⟩ := ob hf
        refine g_getF dX5_divide_76 ev18 t_160 hin9 hc9 (by decide) rfl ?_
        refine g_aload_n (j := 3) dX5_divide_79 rfl rfl ?_
        obtain ⟨_, h21, hf⟩ := ob hf
        obtain ⟨σ19, v20, eσ19, hf⟩ := cb_el hf
        refine g_callVN_v dX5_divide_80 (wX3_setTo _ eσ19) (okX3_setTo _ (by decide) (by decide)) (ckK_el h21) hc7 t_863 t_865 s_X3_setTo rfl (Nat.le_trans (cat_le _) (Nat.le_of_ble_eq_true rfl)) rfl ?_
        refine g_aload_n (j := 1) dX5_divide_83 rfl rfl ?_
        obtain ⟨v22, ev22, hf⟩ := ob hf
        refine g_getF dX5_divide_84 ev22 t_160 hin9 hc9 (by decide) rfl ?_
        refine g_iload (j := 0) dX5_divide_87 rfl ?_
        refine g_iconst (v := 0) dX5_divide_89 (by decide) ?_
        obtain ⟨_, h25, hf⟩ := ob hf
        obtain ⟨σ23, v24, eσ23, hf⟩ := cb_el hf
        refine g_callVN_v dX5_divide_90 (wX3_raise _ eσ23) (okX3_raise _ (by decide) (by decide)) (ckK_el h25) hc7 t_896 t_898 s_X3_raise rfl (Nat.le_trans (cat_le _) (Nat.le_of_ble_eq_true rfl)) rfl ?_
        refine g_aload (j := 5) dX5_divide_93 rfl ?_
        refine g_iload (j := 0) dX5_divide_95 rfl ?_
        refine g_iconst (v := 0) dX5_divide_97 (by decide) ?_
        obtain ⟨_, h28, hf⟩ := ob hf
        obtain ⟨σ26, v27, eσ26, hf⟩ := cb_el hf
        refine g_callVN_v dX5_divide_98 (wX3_raise _ eσ26) (okX3_raise _ (by decide) (by decide)) (ckK_el h28) hc7 t_896 t_898 s_X3_raise rfl (Nat.le_trans (cat_le _) (Nat.le_of_ble_eq_true rfl)) rfl ?_
        refine g_aload (j := 5) dX5_divide_101 rfl ?_
        obtain ⟨v29, ev29, hf⟩ := ob hf
        refine g_getIN dX5_divide_103 ev29 t_59 hin7 hc7 (by decide) rfl ?_
        refine g_istore (i := 6) (L' := [(6, .int v29), (5, .int v17), (0, rv x0), (1, rv x1), (2, rv x2), (3, rv x3), (4, rv x4)]) dX5_divide_106 (Nat.le_of_ble_eq_true rfl) rfl ?_
        refine g_aload (j := 6) dX5_divide_108 rfl ?_
        obtain ⟨v30, ev30, hf⟩ := ob hf
        refine g_getFN dX5_divide_110 ev30 t_57 hin7 hc7 (by decide) rfl ?_
        obtain ⟨v31, ev31, hf⟩ := ob hf
        refine g_alen dX5_divide_113 ev31 ?_
        refine g_iload (j := 0) dX5_divide_114 rfl ?_
        refine g_icmp_gt (tgt := 138) dX5_divide_116 (by decide) (fun c32 => ?_) (fun c32 => ?_)
        · rw [if_pos c32] at hf
          refine g_sub (L' := [(0, rv x0), (3, rv x3), (4, rv x4), (5, .int v17), (6, .int v29)]) [2, 5, 6, 1, 0] rfl ?_
          exact bX5_divide_138 hX1 hX2 hf
        · rw [if_neg c32] at hf
          refine g_aload (j := 6) dX5_divide_119 rfl ?_
          refine g_aload (j := 6) dX5_divide_121 rfl ?_
          obtain ⟨v33, ev33, hf⟩ := ob hf
          refine g_getFN dX5_divide_123 ev33 t_57 hin7 hc7 (by decide) rfl ?_
          refine g_iload (j := 0) dX5_divide_126 rfl ?_
          refine g_iconst (v := 2) dX5_divide_128 (by decide) ?_
          refine g_imul dX5_divide_129 ?_
          refine g_iconst (v := 1) dX5_divide_130 (by decide) ?_
          refine g_iadd dX5_divide_131 ?_
          obtain ⟨σ34, a35, eσ34, hf⟩ := cb_el hf
          refine g_callS_q dX5_divide_132 (wJ7_copyOf_59c91 _ eσ34) (okJ7_copyOf_59c91 _ (by decide) (by decide)) t_934 t_901 rfl (Nat.le_trans (cat_le _) (Nat.le_of_ble_eq_true rfl)) rfl ?_
          obtain ⟨σ36, eσ36, hf⟩ := ob hf
          refine g_putF dX5_divide_135 eσ36 (Or.inr ⟨_, t_57⟩) hin7 hc7 (by decide) hty7 hnm7 (Or.inl rfl) rfl ?_
          refine g_sub (L' := [(0, rv x0), (3, rv x3), (4, rv x4), (5, .int v17), (6, .int v29)]) [2, 5, 6, 1, 0] rfl ?_
          exact bX5_divide_138 hX1 hX2 hf
      · rw [if_pos c12] at hf
        refine g_aload_n (j := 3) dX5_divide_35 rfl rfl ?_
        refine g_aload_n (j := 1) dX5_divide_36 rfl rfl ?_
        obtain ⟨_, h39, hf⟩ := ob hf
        obtain ⟨σ37, v38, eσ37, hf⟩ := cb_el hf
        refine g_callVN_v dX5_divide_37 (wX3_setTo _ eσ37) (okX3_setTo _ (by decide) (by decide)) (ckK_el h39) hc7 t_863 t_865 s_X3_setTo rfl (Nat.le_trans (cat_le _) (Nat.le_of_ble_eq_true rfl)) rfl ?_
        refine g_aload (j := 4) dX5_divide_40 rfl ?_
        refine g_aload_n (j := 3) dX5_divide_42 rfl rfl ?_
        refine g_aload_n (j := 2) dX5_divide_43 rfl rfl ?_
        obtain ⟨v40, ev40, hf⟩ := ob hf
        refine g_getFN dX5_divide_44 ev40 t_57 hin7 hc7 (by decide) rfl ?_
        refine g_iconst (v := 0) dX5_divide_47 (by decide) ?_
        obtain ⟨v41, ev41, hf⟩ := ob hf
        refine g_iald dX5_divide_48 ev41 ?_
        obtain ⟨_, h44, hf⟩ := ob hf
        obtain ⟨σ42, v43, eσ42, hf⟩ := cb_el hf
        refine g_callVN_i dX5_divide_49 (wX3_lower _ eσ42) (okX3_lower _ (by decide) (by decide)) (ckK_el h44) hc7 t_871 t_873 s_X3_lower rfl (Nat.le_trans (cat_le _) (Nat.le_of_ble_eq_true rfl)) rfl ?_
        refine g_i2l dX5_divide_52 rfl ?_
        obtain ⟨_, h47, hf⟩ := ob hf
        obtain ⟨σ45, v46, eσ45, hf⟩ := cb_el hf
        refine g_callVN_v dX5_divide_53 (wX3_setSmall _ eσ45) (okX3_setSmall _ (by decide) (by decide)) (ckK_el h47) hc7 t_895 t_69 s_X3_setSmall rfl (Nat.le_trans (cat_le _) (Nat.le_of_ble_eq_true rfl)) rfl ?_
        exact g_vret dX5_divide_56 rfl hX2 hX1 hf
    · rw [if_neg c10] at hf
      exact g_vret dX5_divide_26 rfl hX2 hX1 hf

theorem okX5_divide (M : Mt) (h1 : 3 + 1 ≤ M.2.2.2.2.1) (h2 : 8 + (9 + 11) + 167 ≤ M.2.2.2.2.2.1) : CallOk M MtX5_divide yX5_divide 4 := ⟨t_932, h1, h2, ⟨by decide, by decide⟩, by decide +kernel, t_9⟩
abbrev MtX5_gcd : Mt := (cX5_gcd, 13, "ExactlySaid$Reckoner", none, 4, 195, false)
set_option maxRecDepth 100000 in
set_option maxHeartbeats 4000000 in
theorem bX5_gcd_50 {X : Xt} {σf : St} {r : Unit} (hX1 : X.2.2.1 = σf) (hX2 : X.2.2.2 = .inl (none)) {k27 : St → Nat → Nat → Nat → Nat → Int32 → Option (St × Unit)} (hk27 : ∀ (σ : St) (x0 : Nat) (x3 : Nat) (x4 : Nat) (x5 : Nat) (x6 : Int32), k27 σ x0 x3 x4 x5 x6 = some (σf, r) → G MtX5_gcd X σ 27 [(0, rv x0), (3, rv x3), (4, rv x4), (5, rv x5), (6, .int x6)] []) {σ : St} {x0 : Nat} {x3 : Nat} {x4 : Nat} {x5 : Nat} {x6 : Int32} (hf : fX5_gcd_50 k27 σ x0 x3 x4 x5 x6 = some (σf, r)) : G MtX5_gcd X σ 50 [(0, rv x0), (3, rv x3), (4, rv x4), (5, rv x5), (6, .int x6)] [] := by
  unfold fX5_gcd_50 at hf
  refine g_aload (j := 3) dX5_gcd_50 rfl ?_
  obtain ⟨_, h3, hf⟩ := ob hf
  obtain ⟨σ1, v2, eσ1, hf⟩ := cb_el hf
  refine g_callVN_i dX5_gcd_52 (wX3_isZero _ eσ1) (okX3_isZero _ (by decide) (by decide)) (ckK_el h3) hc7 t_1022 t_1024 s_X3_isZero rfl (Nat.le_trans (cat_le _) (Nat.le_of_ble_eq_true rfl)) rfl ?_
  refine g_if_eq (tgt := 65) dX5_gcd_55 (by decide) (fun c4 => ?_) (fun c4 => ?_)
  · rw [if_pos c4] at hf
    refine g_aload_n (j := 0) dX5_gcd_65 rfl rfl ?_
    refine g_aload (j := 2) dX5_gcd_66 rfl ?_
    refine g_aload (j := 3) dX5_gcd_68 rfl ?_
    refine g_aload_n (j := 0) dX5_gcd_70 rfl rfl ?_
    obtain ⟨v5, ev5, hf⟩ := ob hf
    refine g_getF dX5_gcd_71 ev5 t_159 hin9 hc9 (by decide) rfl ?_
    refine g_aload (j := 2) dX5_gcd_74 rfl ?_
    obtain ⟨_, h8, hf⟩ := ob hf
    obtain ⟨σ6, v7, eσ6, hf⟩ := cb_el hf
    refine g_callV_v dX5_gcd_76 (wX5_divide _ eσ6) (okX5_divide _ (by decide) (by decide)) (ckK_el h8) hc9 t_929 t_931 s_X5_divide rfl (Nat.le_trans (cat_le _) (Nat.le_of_ble_eq_true rfl)) rfl ?_
    refine g_aload (j := 2) dX5_gcd_79 rfl ?_
    refine g_astore (i := 7) (L' := [(7, rv x4), (0, rv x0), (3, rv x3), (4, rv x4), (5, rv x5), (6, .int x6)]) dX5_gcd_81 (Nat.le_of_ble_eq_true rfl) rfl ?_
    refine g_aload (j := 4) dX5_gcd_83 rfl ?_
    refine g_astore (i := 4) (L' := [(4, rv x5), (7, rv x4), (0, rv x0), (3, rv x3), (5, rv x5), (6, .int x6)]) dX5_gcd_85 (Nat.le_of_ble_eq_true rfl) (by simp [rv_cat]) ?_
    refine g_aload (j := 1) dX5_gcd_87 rfl ?_
    refine g_astore (i := 5) (L' := [(5, rv x4), (4, rv x5), (7, rv x4), (0, rv x0), (3, rv x3), (6, .int x6)]) dX5_gcd_89 (Nat.le_of_ble_eq_true rfl) (by simp [rv_cat]) ?_
    obtain ⟨v9, ev9, hf⟩ := nm_el hf
    refine g_iinc (L' := [(6, .int v9), (5, rv x4), (4, rv x5), (7, rv x4), (0, rv x0), (3, rv x3)]) (j := 5) (v := v9) dX5_gcd_91 rfl (by rw [ev9]; rfl) (Nat.le_of_ble_eq_true rfl) (by simp [rv_cat]) ?_
    refine g_goto (tgt := 27) dX5_gcd_94 (by decide) ?_
    refine g_sub (L' := [(0, rv x0), (3, rv x3), (4, rv x5), (5, rv x4), (6, .int v9)]) [4, 5, 2, 1, 0] rfl ?_
    exact hk27 _ _ _ _ _ _ hf
  · rw [if_neg c4] at hf
    refine g_aload_n (j := 1) dX5_gcd_58 rfl rfl ?_
    refine g_aload (j := 2) dX5_gcd_59 rfl ?_
    obtain ⟨_, h12, hf⟩ := ob hf
    obtain ⟨σ10, v11, eσ10, hf⟩ := cb_el hf
    refine g_callVN_v dX5_gcd_61 (wX3_setTo _ eσ10) (okX3_setTo _ (by decide) (by decide)) (ckK_el h12) hc7 t_863 t_865 s_X3_setTo rfl (Nat.le_trans (cat_le _) (Nat.le_of_ble_eq_true rfl)) rfl ?_
    exact g_vret dX5_gcd_64 rfl hX2 hX1 hf

set_option maxRecDepth 100000 in
set_option maxHeartbeats 4000000 in
theorem bX5_gcd_149 {X : Xt} {σf : St} {r : Unit} (hX1 : X.2.2.1 = σf) (hX2 : X.2.2.2 = .inl (none)) {σ : St} {x3 : Nat} {x6 : Int64} (hf : fX5_gcd_149 σ x3 x6 = some (σf, r)) : G MtX5_gcd X σ 149 [(3, rv x3), (6, .long x6)] [] := by
  unfold fX5_gcd_149 at hf
  refine g_aload_n (j := 0) dX5_gcd_149 rfl rfl ?_
  refine g_lload (j := 1) dX5_gcd_150 rfl ?_
  obtain ⟨_, h3, hf⟩ := ob hf
  obtain ⟨σ1, v2, eσ1, hf⟩ := cb_el hf
  refine g_callVN_v dX5_gcd_152 (wX3_setSmall _ eσ1) (okX3_setSmall _ (by decide) (by decide)) (ckK_el h3) hc7 t_895 t_69 s_X3_setSmall rfl (Nat.le_trans (cat_le _) (Nat.le_of_ble_eq_true rfl)) rfl ?_
  exact g_vret dX5_gcd_155 rfl hX2 hX1 hf

set_option maxRecDepth 100000 in
set_option maxHeartbeats 4000000 in
theorem bX5_gcd_114 {X : Xt} {σf : St} {r : Unit} (hX1 : X.2.2.1 = σf) (hX2 : X.2.2.2 = .inl (none)) : ∀ (n : Nat) (σ : St) (x3 : Nat) (x6 : Int64) (x8 : Int64) (x10 : Int32), fX5_gcd_114 n σ x3 x6 x8 x10 = some (σf, r) → G MtX5_gcd X σ 114 [(3, rv x3), (6, .long x6), (8, .long x8), (10, .int x10)] [] := by
  intro n
  induction n with
  | zero => intro σ x3 x6 x8 x10 hf; cases hf
  | succ n ih =>
    intro σ x3 x6 x8 x10 hf
    rw [fX5_gcd_114] at hf
    refine g_iload (j := 3) dX5_gcd_114 rfl ?_
    refine g_ldc (v := 1000000) dX5_gcd_116 t_1035 ?_
    refine g_icmp_ge (tgt := 149) dX5_gcd_118 (by decide) (fun c1 => ?_) (fun c1 => ?_)
    · rw [if_pos c1] at hf
      refine g_sub (L' := [(3, rv x3), (6, .long x6)]) [0, 1] rfl ?_
      exact bX5_gcd_149 hX1 hX2 hf
    · rw [if_neg c1] at hf
      refine g_lload (j := 2) dX5_gcd_121 rfl ?_
      refine g_lconst (v := 0) dX5_gcd_123 (by decide) ?_
      refine g_lcmp dX5_gcd_124 ?_
      refine g_if_eq (tgt := 149) dX5_gcd_125 (by decide) (fun c2 => ?_) (fun c2 => ?_)
      · rw [if_pos c2] at hf
        refine g_sub (L' := [(3, rv x3), (6, .long x6)]) [0, 1] rfl ?_
        exact bX5_gcd_149 hX1 hX2 hf
      · rw [if_neg c2] at hf
        refine g_lload (j := 1) dX5_gcd_128 rfl ?_
        refine g_lload (j := 2) dX5_gcd_130 rfl ?_
        obtain ⟨_, h3, hf⟩ := ob hf
        refine g_lrem dX5_gcd_132 (ckDL_el h3) ?_
        obtain ⟨v4, ev4, hf⟩ := nm_el hf
        refine g_topL ev4 ?_
        refine g_lstore (i := 11) (L' := [(11, .long v4), (3, rv x3), (6, .long x6), (8, .long x8), (10, .int x10)]) dX5_gcd_133 (Nat.le_of_ble_eq_true rfl) rfl ?_
        refine g_lload (j := 3) dX5_gcd_135 rfl ?_
        refine g_lstore (i := 6) (L' := [(6, .long x8), (11, .long v4), (3, rv x3), (8, .long x8), (10, .int x10)]) dX5_gcd_137 (Nat.le_of_ble_eq_true rfl) rfl ?_
        refine g_lload (j := 1) dX5_gcd_139 rfl ?_
        refine g_lstore (i := 8) (L' := [(8, .long v4), (6, .long x8), (11, .long v4), (3, rv x3), (10, .int x10)]) dX5_gcd_141 (Nat.le_of_ble_eq_true rfl) rfl ?_
        obtain ⟨v5, ev5, hf⟩ := nm_el hf
        refine g_iinc (L' := [(10, .int v5), (8, .long v4), (6, .long x8), (11, .long v4), (3, rv x3)]) (j := 4) (v := v5) dX5_gcd_143 rfl (by rw [ev5]; rfl) (Nat.le_of_ble_eq_true rfl) rfl ?_
        refine g_goto (tgt := 114) dX5_gcd_146 (by decide) ?_
        refine g_sub (L' := [(3, rv x3), (6, .long x8), (8, .long v4), (10, .int v5)]) [4, 2, 1, 0] rfl ?_
        exact ih _ _ _ _ _ hf

set_option maxRecDepth 100000 in
set_option maxHeartbeats 4000000 in
theorem bX5_gcd_97 {X : Xt} {σf : St} {r : Unit} (hX1 : X.2.2.1 = σf) (hX2 : X.2.2.2 = .inl (none)) {σ : St} {x3 : Nat} {x4 : Nat} {x5 : Nat} (hf : fX5_gcd_97 σ x3 x4 x5 = some (σf, r)) : G MtX5_gcd X σ 97 [(3, rv x3), (4, rv x4), (5, rv x5)] [] := by
  unfold fX5_gcd_97 at hf
  refine g_aload (j := 1) dX5_gcd_97 rfl ?_
  obtain ⟨_, h3, hf⟩ := ob hf
  obtain ⟨σ1, v2, eσ1, hf⟩ := cb_el hf
  refine g_callVN_l dX5_gcd_99 (wX3_asLong _ eσ1) (okX3_asLong _ (by decide) (by decide)) (ckK_el h3) hc7 t_885 t_887 s_X3_asLong rfl (Nat.le_trans (cat_le _) (Nat.le_of_ble_eq_true rfl)) rfl ?_
  refine g_lstore (i := 6) (L' := [(6, .long v2), (3, rv x3), (4, rv x4), (5, rv x5)]) dX5_gcd_102 (Nat.le_of_ble_eq_true rfl) (by simp [rv_cat]) ?_
  refine g_aload (j := 3) dX5_gcd_104 rfl ?_
  obtain ⟨_, h6, hf⟩ := ob hf
  obtain ⟨σ4, v5, eσ4, hf⟩ := cb_el hf
  refine g_callVN_l dX5_gcd_106 (wX3_asLong _ eσ4) (okX3_asLong _ (by decide) (by decide)) (ckK_el h6) hc7 t_885 t_887 s_X3_asLong rfl (Nat.le_trans (cat_le _) (Nat.le_of_ble_eq_true rfl)) rfl ?_
  refine g_lstore (i := 8) (L' := [(8, .long v5), (6, .long v2), (3, rv x3), (4, rv x4), (5, rv x5)]) dX5_gcd_109 (Nat.le_of_ble_eq_true rfl) rfl ?_
  refine g_iconst (v := 0) dX5_gcd_111 (by decide) ?_
  refine g_istore (i := 10) (L' := [(10, .int 0), (8, .long v5), (6, .long v2), (3, rv x3), (4, rv x4), (5, rv x5)]) dX5_gcd_112 (Nat.le_of_ble_eq_true rfl) rfl ?_
  refine g_sub (L' := [(3, rv x3), (6, .long v2), (8, .long v5), (10, .int 0)]) [3, 2, 1, 0] rfl ?_
  exact bX5_gcd_114 hX1 hX2 FU _ _ _ _ _ hf

set_option maxRecDepth 100000 in
set_option maxHeartbeats 4000000 in
theorem bX5_gcd_27 {X : Xt} {σf : St} {r : Unit} (hX1 : X.2.2.1 = σf) (hX2 : X.2.2.2 = .inl (none)) : ∀ (n : Nat) (σ : St) (x0 : Nat) (x3 : Nat) (x4 : Nat) (x5 : Nat) (x6 : Int32), fX5_gcd_27 n σ x0 x3 x4 x5 x6 = some (σf, r) → G MtX5_gcd X σ 27 [(0, rv x0), (3, rv x3), (4, rv x4), (5, rv x5), (6, .int x6)] [] := by
  intro n
  induction n with
  | zero => intro σ x0 x3 x4 x5 x6 hf; cases hf
  | succ n ih =>
    intro σ x0 x3 x4 x5 x6 hf
    rw [fX5_gcd_27] at hf
    refine g_iload (j := 4) dX5_gcd_27 rfl ?_
    refine g_ldc (v := 1000000) dX5_gcd_29 t_1035 ?_
    refine g_icmp_ge (tgt := 97) dX5_gcd_31 (by decide) (fun c1 => ?_) (fun c1 => ?_)
    · rw [if_pos c1] at hf
      refine g_sub (L' := [(3, rv x3), (4, rv x4), (5, rv x5)]) [1, 2, 3] rfl ?_
      exact bX5_gcd_97 hX1 hX2 hf
    · rw [if_neg c1] at hf
      refine g_aload (j := 3) dX5_gcd_34 rfl ?_
      obtain ⟨_, h4, hf⟩ := ob hf
      obtain ⟨σ2, v3, eσ2, hf⟩ := cb_el hf
      refine g_callVN_i dX5_gcd_36 (wX3_isLong _ eσ2) (okX3_isLong _ (by decide) (by decide)) (ckK_el h4) hc7 t_881 t_883 s_X3_isLong rfl (Nat.le_trans (cat_le _) (Nat.le_of_ble_eq_true rfl)) rfl ?_
      refine g_if_eq (tgt := 50) dX5_gcd_39 (by decide) (fun c5 => ?_) (fun c5 => ?_)
      · rw [if_pos c5] at hf
        exact bX5_gcd_50 hX1 hX2 (fun σ x0 x3 x4 x5 x6 hf => ih σ x0 x3 x4 x5 x6 hf) hf
      · rw [if_neg c5] at hf
        refine g_aload (j := 2) dX5_gcd_42 rfl ?_
        obtain ⟨_, h8, hf⟩ := ob hf
        obtain ⟨σ6, v7, eσ6, hf⟩ := cb_el hf
        refine g_callVN_i dX5_gcd_44 (wX3_isLong _ eσ6) (okX3_isLong _ (by decide) (by decide)) (ckK_el h8) hc7 t_881 t_883 s_X3_isLong rfl (Nat.le_trans (cat_le _) (Nat.le_of_ble_eq_true rfl)) rfl ?_
        refine g_if_ne (tgt := 97) dX5_gcd_47 (by decide) (fun c9 => ?_) (fun c9 => ?_)
        · rw [if_neg c9] at hf
          refine g_sub (L' := [(3, rv x3), (4, rv x4), (5, rv x5)]) [1, 2, 3] rfl ?_
          exact bX5_gcd_97 hX1 hX2 hf
        · rw [if_pos c9] at hf
          exact bX5_gcd_50 hX1 hX2 (fun σ x0 x3 x4 x5 x6 hf => ih σ x0 x3 x4 x5 x6 hf) hf

set_option maxRecDepth 100000 in
set_option maxHeartbeats 4000000 in
theorem wX5_gcd (l : Launch) {σ σf : St} {x0 : Nat} {x1 : Nat} {x2 : Nat} {x3 : Nat} {r : Unit} (hf : fX5_gcd σ x0 x1 x2 x3 = some (σf, r)) : Con MtX5_gcd yX5_gcd l σ [rv x0, rv x1, rv x2, rv x3] σf (none) := by
  refine Con.of (by decide +kernel) rfl (fun h => absurd (show false = true from h) (by decide)) (by simp only [sl_n, sl_r, sl_i, sl_l]; exact Nat.le_of_ble_eq_true rfl) ?_
  rw [show lv_args 0 [rv x0, rv x1, rv x2, rv x3] = [(0, rv x0), (1, rv x1), (2, rv x2), (3, rv x3)] by simp only [la_n, la_r, la_i, la_l] <;> rfl]
  have hX1 : ((l, σ, σf, .inl (none)) : Xt).2.2.1 = σf := rfl
  have hX2 : ((l, σ, σf, .inl (none)) : Xt).2.2.2 = .inl (none) := rfl
  unfold fX5_gcd at hf
  refine g_aload_n (j := 0) dX5_gcd_0 rfl rfl ?_
  obtain ⟨v1, ev1, hf⟩ := ob hf
  refine g_getF dX5_gcd_1 ev1 t_162 hin9 hc9 (by decide) rfl ?_
  refine g_astore (i := 4) (L' := [(4, rv v1), (0, rv x0), (1, rv x1), (2, rv x2), (3, rv x3)]) dX5_gcd_4 (Nat.le_of_ble_eq_true rfl) (by simp [rv_cat]) ?_
  refine g_aload_n (j := 1) dX5_gcd_6 rfl rfl ?_
  obtain ⟨v2, ev2, hf⟩ := ob hf
  refine g_getF dX5_gcd_7 ev2 t_163 hin9 hc9 (by decide) rfl ?_
  refine g_astore (i := 5) (L' := [(5, rv v2), (4, rv v1), (0, rv x0), (1, rv x1), (2, rv x2), (3, rv x3)]) dX5_gcd_10 (Nat.le_of_ble_eq_true rfl) (by simp [rv_cat]) ?_
  refine g_aload (j := 1) dX5_gcd_12 rfl ?_
  refine g_aload_n (j := 3) dX5_gcd_14 rfl rfl ?_
  obtain ⟨_, h5, hf⟩ := ob hf
  obtain ⟨σ3, v4, eσ3, hf⟩ := cb_el hf
  refine g_callVN_v dX5_gcd_15 (wX3_setTo _ eσ3) (okX3_setTo _ (by decide) (by decide)) (ckK_el h5) hc7 t_863 t_865 s_X3_setTo rfl (Nat.le_trans (cat_le _) (Nat.le_of_ble_eq_true rfl)) rfl ?_
  refine g_aload (j := 0) dX5_gcd_18 rfl ?_
  refine g_aload_n (j := 4) dX5_gcd_20 rfl rfl ?_
  obtain ⟨_, h8, hf⟩ := ob hf
  obtain ⟨σ6, v7, eσ6, hf⟩ := cb_el hf
  refine g_callVN_v dX5_gcd_21 (wX3_setTo _ eσ6) (okX3_setTo _ (by decide) (by decide)) (ckK_el h8) hc7 t_863 t_865 s_X3_setTo rfl (Nat.le_trans (cat_le _) (Nat.le_of_ble_eq_true rfl)) rfl ?_
  refine g_iconst (v := 0) dX5_gcd_24 (by decide) ?_
  refine g_istore (i := 6) (L' := [(6, .int 0), (5, rv v2), (4, rv v1), (0, rv x0), (1, rv x1), (2, rv x2), (3, rv x3)]) dX5_gcd_25 (Nat.le_of_ble_eq_true rfl) (by simp [rv_cat]) ?_
  refine g_sub (L' := [(0, rv x0), (3, rv x3), (4, rv v1), (5, rv v2), (6, .int 0)]) [3, 6, 2, 1, 0] rfl ?_
  exact bX5_gcd_27 hX1 hX2 FU _ _ _ _ _ _ hf

theorem okX5_gcd (M : Mt) (h1 : 4 + 1 ≤ M.2.2.2.2.1) (h2 : 8 + (13 + 11) + 195 ≤ M.2.2.2.2.2.1) : CallOk M MtX5_gcd yX5_gcd 3 := ⟨t_1056, h1, h2, ⟨by decide, by decide⟩, by decide +kernel, t_9⟩
abbrev MtX5_reduce : Mt := (cX5_reduce, 2, "ExactlySaid$Reckoner", none, 5, 227, false)
set_option maxRecDepth 100000 in
set_option maxHeartbeats 4000000 in
theorem wX5_reduce (l : Launch) {σ σf : St} {x0 : Nat} {x1 : Nat} {r : Unit} (hf : fX5_reduce σ x0 x1 = some (σf, r)) : Con MtX5_reduce yX5_reduce l σ [rv x0, rv x1] σf (none) := by
  refine Con.of (by decide +kernel) rfl (fun h => absurd (show false = true from h) (by decide)) (by simp only [sl_n, sl_r, sl_i, sl_l]; exact Nat.le_of_ble_eq_true rfl) ?_
  rw [show lv_args 0 [rv x0, rv x1] = [(0, rv x0), (1, rv x1)] by simp only [la_n, la_r, la_i, la_l] <;> rfl]
  have hX1 : ((l, σ, σf, .inl (none)) : Xt).2.2.1 = σf := rfl
  have hX2 : ((l, σ, σf, .inl (none)) : Xt).2.2.2 = .inl (none) := rfl
  unfold fX5_reduce at hf
  refine g_aload_n (j := 0) dX5_reduce_0 rfl rfl ?_
  refine g_aload_n (j := 1) dX5_reduce_1 rfl rfl ?_
  obtain ⟨v1, ev1, hf⟩ := ob hf
  refine g_getFN dX5_reduce_2 ev1 t_77 hin5 hc5 (by decide) rfl ?_
  refine g_aload_n (j := 1) dX5_reduce_5 rfl rfl ?_
  obtain ⟨v2, ev2, hf⟩ := ob hf
  refine g_getFN dX5_reduce_6 ev2 t_82 hin5 hc5 (by decide) rfl ?_
  refine g_aload_n (j := 0) dX5_reduce_9 rfl rfl ?_
  obtain ⟨v3, ev3, hf⟩ := ob hf
  refine g_getF dX5_reduce_10 ev3 t_164 hin9 hc9 (by decide) rfl ?_
  obtain ⟨_, h6, hf⟩ := ob hf
  obtain ⟨σ4, v5, eσ4, hf⟩ := cb_el hf
  refine g_callV_v dX5_reduce_13 (wX5_gcd _ eσ4) (okX5_gcd _ (by decide) (by decide)) (ckK_el h6) hc9 t_1053 t_1055 s_X5_gcd rfl (Nat.le_trans (cat_le _) (Nat.le_of_ble_eq_true rfl)) rfl ?_
  refine g_aload_n (j := 0) dX5_reduce_16 rfl rfl ?_
  refine g_aload_n (j := 1) dX5_reduce_17 rfl rfl ?_
  obtain ⟨v7, ev7, hf⟩ := ob hf
  refine g_getFN dX5_reduce_18 ev7 t_77 hin5 hc5 (by decide) rfl ?_
  refine g_aload_n (j := 0) dX5_reduce_21 rfl rfl ?_
  obtain ⟨v8, ev8, hf⟩ := ob hf
  refine g_getF dX5_reduce_22 ev8 t_164 hin9 hc9 (by decide) rfl ?_
  refine g_aload_n (j := 0) dX5_reduce_25 rfl rfl ?_
  obtain ⟨v9, ev9, hf⟩ := ob hf
  refine g_getF dX5_reduce_26 ev9 t_166 hin9 hc9 (by decide) rfl ?_
  refine g_aload_n (j := 0) dX5_reduce_29 rfl rfl ?_
  obtain ⟨v10, ev10, hf⟩ := ob hf
  refine g_getF dX5_reduce_30 ev10 t_161 hin9 hc9 (by decide) rfl ?_
  obtain ⟨_, h13, hf⟩ := ob hf
  obtain ⟨σ11, v12, eσ11, hf⟩ := cb_el hf
  refine g_callV_v dX5_reduce_33 (wX5_divide _ eσ11) (okX5_divide _ (by decide) (by decide)) (ckK_el h13) hc9 t_929 t_931 s_X5_divide rfl (Nat.le_trans (cat_le _) (Nat.le_of_ble_eq_true rfl)) rfl ?_
  refine g_aload_n (j := 0) dX5_reduce_36 rfl rfl ?_
  refine g_aload_n (j := 1) dX5_reduce_37 rfl rfl ?_
  obtain ⟨v14, ev14, hf⟩ := ob hf
  refine g_getFN dX5_reduce_38 ev14 t_82 hin5 hc5 (by decide) rfl ?_
  refine g_aload_n (j := 0) dX5_reduce_41 rfl rfl ?_
  obtain ⟨v15, ev15, hf⟩ := ob hf
  refine g_getF dX5_reduce_42 ev15 t_164 hin9 hc9 (by decide) rfl ?_
  refine g_aload_n (j := 0) dX5_reduce_45 rfl rfl ?_
  obtain ⟨v16, ev16, hf⟩ := ob hf
  refine g_getF dX5_reduce_46 ev16 t_167 hin9 hc9 (by decide) rfl ?_
  refine g_aload_n (j := 0) dX5_reduce_49 rfl rfl ?_
  obtain ⟨v17, ev17, hf⟩ := ob hf
  refine g_getF dX5_reduce_50 ev17 t_161 hin9 hc9 (by decide) rfl ?_
  obtain ⟨_, h20, hf⟩ := ob hf
  obtain ⟨σ18, v19, eσ18, hf⟩ := cb_el hf
  refine g_callV_v dX5_reduce_53 (wX5_divide _ eσ18) (okX5_divide _ (by decide) (by decide)) (ckK_el h20) hc9 t_929 t_931 s_X5_divide rfl (Nat.le_trans (cat_le _) (Nat.le_of_ble_eq_true rfl)) rfl ?_
  refine g_aload_n (j := 1) dX5_reduce_56 rfl rfl ?_
  obtain ⟨v21, ev21, hf⟩ := ob hf
  refine g_getFN dX5_reduce_57 ev21 t_77 hin5 hc5 (by decide) rfl ?_
  refine g_aload_n (j := 0) dX5_reduce_60 rfl rfl ?_
  obtain ⟨v22, ev22, hf⟩ := ob hf
  refine g_getF dX5_reduce_61 ev22 t_166 hin9 hc9 (by decide) rfl ?_
  obtain ⟨_, h25, hf⟩ := ob hf
  obtain ⟨σ23, v24, eσ23, hf⟩ := cb_el hf
  refine g_callVN_v dX5_reduce_64 (wX3_setTo _ eσ23) (okX3_setTo _ (by decide) (by decide)) (ckK_el h25) hc7 t_863 t_865 s_X3_setTo rfl (Nat.le_trans (cat_le _) (Nat.le_of_ble_eq_true rfl)) rfl ?_
  refine g_aload_n (j := 1) dX5_reduce_67 rfl rfl ?_
  obtain ⟨v26, ev26, hf⟩ := ob hf
  refine g_getFN dX5_reduce_68 ev26 t_82 hin5 hc5 (by decide) rfl ?_
  refine g_aload_n (j := 0) dX5_reduce_71 rfl rfl ?_
  obtain ⟨v27, ev27, hf⟩ := ob hf
  refine g_getF dX5_reduce_72 ev27 t_167 hin9 hc9 (by decide) rfl ?_
  obtain ⟨_, h30, hf⟩ := ob hf
  obtain ⟨σ28, v29, eσ28, hf⟩ := cb_el hf
  refine g_callVN_v dX5_reduce_75 (wX3_setTo _ eσ28) (okX3_setTo _ (by decide) (by decide)) (ckK_el h30) hc7 t_863 t_865 s_X3_setTo rfl (Nat.le_trans (cat_le _) (Nat.le_of_ble_eq_true rfl)) rfl ?_
  exact g_vret dX5_reduce_78 rfl hX2 hX1 hf

theorem okX5_reduce (M : Mt) (h1 : 5 + 1 ≤ M.2.2.2.2.1) (h2 : 8 + (2 + 11) + 227 ≤ M.2.2.2.2.2.1) : CallOk M MtX5_reduce yX5_reduce 1 := ⟨t_1173, h1, h2, ⟨by decide, by decide⟩, by decide +kernel, t_9⟩
abbrev MtX4_numberFrom : Mt := (cX4_numberFrom, 12, "ExactlySaid$Reader", (Option.some (Jvm.ClassFile.FieldType.object "ExactlySaid$Fraction")), 6, 248, false)
set_option maxRecDepth 100000 in
set_option maxHeartbeats 4000000 in
theorem bX4_numberFrom_98 {X : Xt} {σf : St} {r : Nat} (hX1 : X.2.2.1 = σf) (hX2 : X.2.2.2 = .inl (some (rv r))) {k11 : St → Nat → Nat → Int64 → Int64 → Int32 → Int32 → Option (St × Nat)} (hk11 : ∀ (σ : St) (x0 : Nat) (x2 : Nat) (x3 : Int64) (x5 : Int64) (x7 : Int32) (x8 : Int32), k11 σ x0 x2 x3 x5 x7 x8 = some (σf, r) → G MtX4_numberFrom X σ 11 [(0, rv x0), (2, rv x2), (3, .long x3), (5, .long x5), (7, .int x7), (8, .int x8)] []) {σ : St} {x0 : Nat} {x2 : Nat} {x3 : Int64} {x5 : Int64} {x7 : Int32} {x8 : Int32} (hf : fX4_numberFrom_98 k11 σ x0 x2 x3 x5 x7 x8 = some (σf, r)) : G MtX4_numberFrom X σ 98 [(0, rv x0), (2, rv x2), (3, .long x3), (5, .long x5), (7, .int x7), (8, .int x8)] [] := by
  unfold fX4_numberFrom_98 at hf
  obtain ⟨v1, ev1, hf⟩ := nm_el hf
  refine g_iinc (L' := [(7, .int v1), (0, rv x0), (2, rv x2), (3, .long x3), (5, .long x5), (8, .int x8)]) (j := 4) (v := v1) dX4_numberFrom_98 rfl (by rw [ev1]; rfl) (Nat.le_of_ble_eq_true rfl) rfl ?_
  refine g_goto (tgt := 11) dX4_numberFrom_101 (by decide) ?_
  refine g_sub (L' := [(0, rv x0), (2, rv x2), (3, .long x3), (5, .long x5), (7, .int v1), (8, .int x8)]) [1, 2, 3, 4, 0, 5] rfl ?_
  exact hk11 _ _ _ _ _ _ _ hf

set_option maxRecDepth 100000 in
set_option maxHeartbeats 4000000 in
theorem bX4_numberFrom_96 {X : Xt} {σf : St} {r : Nat} (hX1 : X.2.2.1 = σf) (hX2 : X.2.2.2 = .inl (some (rv r))) {k11 : St → Nat → Nat → Int64 → Int64 → Int32 → Int32 → Option (St × Nat)} (hk11 : ∀ (σ : St) (x0 : Nat) (x2 : Nat) (x3 : Int64) (x5 : Int64) (x7 : Int32) (x8 : Int32), k11 σ x0 x2 x3 x5 x7 x8 = some (σf, r) → G MtX4_numberFrom X σ 11 [(0, rv x0), (2, rv x2), (3, .long x3), (5, .long x5), (7, .int x7), (8, .int x8)] []) {σ : St} {x0 : Nat} {x2 : Nat} {x3 : Int64} {x7 : Int32} {x8 : Int32} {y0 : Int64} (hf : fX4_numberFrom_96 k11 σ x0 x2 x3 x7 x8 y0 = some (σf, r)) : G MtX4_numberFrom X σ 96 [(0, rv x0), (2, rv x2), (3, .long x3), (7, .int x7), (8, .int x8)] [.long y0] := by
  unfold fX4_numberFrom_96 at hf
  refine g_lstore (i := 5) (L' := [(5, .long y0), (0, rv x0), (2, rv x2), (3, .long x3), (7, .int x7), (8, .int x8)]) dX4_numberFrom_96 (Nat.le_of_ble_eq_true rfl) rfl ?_
  refine g_sub (L' := [(0, rv x0), (2, rv x2), (3, .long x3), (5, .long y0), (7, .int x7), (8, .int x8)]) [1, 2, 3, 0, 4, 5] rfl ?_
  exact bX4_numberFrom_98 hX1 hX2 hk11 hf

set_option maxRecDepth 100000 in
set_option maxHeartbeats 4000000 in
theorem bX4_numberFrom_45 {X : Xt} {σf : St} {r : Nat} (hX1 : X.2.2.1 = σf) (hX2 : X.2.2.2 = .inl (some (rv r))) {k11 : St → Nat → Nat → Int64 → Int64 → Int32 → Int32 → Option (St × Nat)} (hk11 : ∀ (σ : St) (x0 : Nat) (x2 : Nat) (x3 : Int64) (x5 : Int64) (x7 : Int32) (x8 : Int32), k11 σ x0 x2 x3 x5 x7 x8 = some (σf, r) → G MtX4_numberFrom X σ 11 [(0, rv x0), (2, rv x2), (3, .long x3), (5, .long x5), (7, .int x7), (8, .int x8)] []) {σ : St} {x0 : Nat} {x2 : Nat} {x3 : Int64} {x5 : Int64} {x7 : Int32} {x8 : Int32} (hf : fX4_numberFrom_45 k11 σ x0 x2 x3 x5 x7 x8 = some (σf, r)) : G MtX4_numberFrom X σ 45 [(0, rv x0), (2, rv x2), (3, .long x3), (5, .long x5), (7, .int x7), (8, .int x8)] [] := by
  unfold fX4_numberFrom_45 at hf
  refine g_aload_n (j := 0) dX4_numberFrom_45 rfl rfl ?_
  refine g_iload (j := 4) dX4_numberFrom_46 rfl ?_
  obtain ⟨_, h3, hf⟩ := ob hf
  obtain ⟨σ1, v2, eσ1, hf⟩ := cb_el hf
  refine g_callV_i dX4_numberFrom_48 (wX4_byteAt _ eσ1) (okX4_byteAt _ (by decide) (by decide)) (ckK_el h3) hc8 t_1320 t_1322 s_X4_byteAt rfl (Nat.le_trans (cat_le _) (Nat.le_of_ble_eq_true rfl)) rfl ?_
  refine g_bipush (v := 46) dX4_numberFrom_51 (by decide) ?_
  refine g_icmp_ne (tgt := 62) dX4_numberFrom_53 (by decide) (fun c4 => ?_) (fun c4 => ?_)
  · rw [if_neg c4] at hf
    refine g_lload_n (j := 2) dX4_numberFrom_62 rfl rfl ?_
    refine g_ldc2 (v := 10) dX4_numberFrom_63 t_1432 ?_
    refine g_lmul dX4_numberFrom_66 ?_
    refine g_aload_n (j := 0) dX4_numberFrom_67 rfl rfl ?_
    refine g_iload (j := 4) dX4_numberFrom_68 rfl ?_
    obtain ⟨_, h7, hf⟩ := ob hf
    obtain ⟨σ5, v6, eσ5, hf⟩ := cb_el hf
    refine g_callV_i dX4_numberFrom_70 (wX4_byteAt _ eσ5) (okX4_byteAt _ (by decide) (by decide)) (ckK_el h7) hc8 t_1320 t_1322 s_X4_byteAt rfl (Nat.le_trans (cat_le _) (Nat.le_of_ble_eq_true rfl)) rfl ?_
    refine g_i2l dX4_numberFrom_73 rfl ?_
    refine g_ladd dX4_numberFrom_74 ?_
    refine g_ldc2 (v := 48) dX4_numberFrom_75 t_1433 ?_
    refine g_lsub dX4_numberFrom_78 ?_
    obtain ⟨v8, ev8, hf⟩ := nm_el hf
    refine g_topL ev8 ?_
    refine g_lstore_n (i := 3) (L' := [(3, .long v8), (0, rv x0), (2, rv x2), (5, .long x5), (7, .int x7), (8, .int x8)]) dX4_numberFrom_79 rfl (Nat.le_of_ble_eq_true rfl) (by simp [rv_cat]) ?_
    refine g_iload (j := 5) dX4_numberFrom_80 rfl ?_
    refine g_if_eq (tgt := 94) dX4_numberFrom_82 (by decide) (fun c9 => ?_) (fun c9 => ?_)
    · rw [if_pos c9] at hf
      refine g_lload (j := 3) dX4_numberFrom_94 rfl ?_
      refine g_sub (L' := [(0, rv x0), (2, rv x2), (3, .long v8), (7, .int x7), (8, .int x8)]) [1, 2, 0, 4, 5] rfl ?_
      exact bX4_numberFrom_96 hX1 hX2 hk11 hf
    · rw [if_neg c9] at hf
      refine g_lload (j := 3) dX4_numberFrom_85 rfl ?_
      refine g_ldc2 (v := 10) dX4_numberFrom_87 t_1432 ?_
      refine g_lmul dX4_numberFrom_90 ?_
      refine g_goto (tgt := 96) dX4_numberFrom_91 (by decide) ?_
      refine g_sub (L' := [(0, rv x0), (2, rv x2), (3, .long v8), (7, .int x7), (8, .int x8)]) [1, 2, 0, 4, 5] rfl ?_
      exact bX4_numberFrom_96 hX1 hX2 hk11 hf
  · rw [if_pos c4] at hf
    refine g_iconst (v := 1) dX4_numberFrom_56 (by decide) ?_
    refine g_istore (i := 8) (L' := [(8, .int 1), (0, rv x0), (2, rv x2), (3, .long x3), (5, .long x5), (7, .int x7)]) dX4_numberFrom_57 (Nat.le_of_ble_eq_true rfl) rfl ?_
    refine g_goto (tgt := 98) dX4_numberFrom_59 (by decide) ?_
    refine g_sub (L' := [(0, rv x0), (2, rv x2), (3, .long x3), (5, .long x5), (7, .int x7), (8, .int 1)]) [1, 2, 3, 4, 5, 0] rfl ?_
    exact bX4_numberFrom_98 hX1 hX2 hk11 hf

set_option maxRecDepth 100000 in
set_option maxHeartbeats 4000000 in
theorem bX4_numberFrom_217 {X : Xt} {σf : St} {r : Nat} (hX1 : X.2.2.1 = σf) (hX2 : X.2.2.2 = .inl (some (rv r))) {σ : St} {x2 : Nat} {x5 : Int64} {x9 : Nat} (hf : fX4_numberFrom_217 σ x2 x5 x9 = some (σf, r)) : G MtX4_numberFrom X σ 217 [(2, rv x2), (5, .long x5), (9, rv x9)] [] := by
  unfold fX4_numberFrom_217 at hf
  refine g_aload (j := 2) dX4_numberFrom_217 rfl ?_
  obtain ⟨v1, ev1, hf⟩ := ob hf
  refine g_getFN dX4_numberFrom_219 ev1 t_84 hin5 hc5 (by decide) rfl ?_
  refine g_lload (j := 1) dX4_numberFrom_222 rfl ?_
  obtain ⟨_, h4, hf⟩ := ob hf
  obtain ⟨σ2, v3, eσ2, hf⟩ := cb_el hf
  refine g_callVN_v dX4_numberFrom_224 (wX3_setSmall _ eσ2) (okX3_setSmall _ (by decide) (by decide)) (ckK_el h4) hc7 t_1435 t_69 s_X3_setSmall rfl (Nat.le_trans (cat_le _) (Nat.le_of_ble_eq_true rfl)) rfl ?_
  refine g_aload (j := 2) dX4_numberFrom_227 rfl ?_
  refine g_iconst (v := 1) dX4_numberFrom_229 (by decide) ?_
  obtain ⟨_, h7, hf⟩ := ob hf
  obtain ⟨σ5, v6, eσ5, hf⟩ := cb_el hf
  refine g_callVN_v dX4_numberFrom_230 (wX1_setSign _ eσ5) (okX1_setSign _ (by decide) (by decide)) (ckK_el h7) hc5 t_1438 t_1028 s_X1_setSign rfl (Nat.le_trans (cat_le _) (Nat.le_of_ble_eq_true rfl)) rfl ?_
  refine g_aload_n (j := 0) dX4_numberFrom_233 rfl rfl ?_
  refine g_aload (j := 2) dX4_numberFrom_234 rfl ?_
  obtain ⟨_, h10, hf⟩ := ob hf
  obtain ⟨σ8, v9, eσ8, hf⟩ := cb_el hf
  refine g_callVN_v dX4_numberFrom_236 (wX5_reduce _ eσ8) (okX5_reduce _ (by decide) (by decide)) (ckK_el h10) hc9 t_1439 t_1172 s_X5_reduce rfl (Nat.le_trans (cat_le _) (Nat.le_of_ble_eq_true rfl)) rfl ?_
  refine g_aload (j := 2) dX4_numberFrom_239 rfl ?_
  exact g_aret dX4_numberFrom_241 rfl rfl hX2 hX1 hf

set_option maxRecDepth 100000 in
set_option maxHeartbeats 4000000 in
theorem bX4_numberFrom_193 {X : Xt} {σf : St} {r : Nat} (hX1 : X.2.2.1 = σf) (hX2 : X.2.2.2 = .inl (some (rv r))) {σ : St} {x2 : Nat} {x5 : Int64} {x9 : Nat} {x10 : Int32} {x11 : Int32} (hf : fX4_numberFrom_193 σ x2 x5 x9 x10 x11 = some (σf, r)) : G MtX4_numberFrom X σ 193 [(2, rv x2), (5, .long x5), (9, rv x9), (10, .int x10), (11, .int x11)] [] := by
  unfold fX4_numberFrom_193 at hf
  refine g_aload (j := 2) dX4_numberFrom_193 rfl ?_
  obtain ⟨v1, ev1, hf⟩ := ob hf
  refine g_getFN dX4_numberFrom_195 ev1 t_79 hin5 hc5 (by decide) rfl ?_
  refine g_iload (j := 4) dX4_numberFrom_198 rfl ?_
  refine g_iconst (v := 1) dX4_numberFrom_200 (by decide) ?_
  refine g_isub dX4_numberFrom_201 ?_
  refine g_iload (j := 3) dX4_numberFrom_202 rfl ?_
  obtain ⟨_, h4, hf⟩ := ob hf
  obtain ⟨σ2, v3, eσ2, hf⟩ := cb_el hf
  refine g_callVN_v dX4_numberFrom_204 (wX3_raise _ eσ2) (okX3_raise _ (by decide) (by decide)) (ckK_el h4) hc7 t_1437 t_898 s_X3_raise rfl (Nat.le_trans (cat_le _) (Nat.le_of_ble_eq_true rfl)) rfl ?_
  refine g_lload (j := 1) dX4_numberFrom_207 rfl ?_
  refine g_iload (j := 4) dX4_numberFrom_209 rfl ?_
  refine g_iconst (v := 1) dX4_numberFrom_211 (by decide) ?_
  refine g_isub dX4_numberFrom_212 ?_
  refine g_i2l dX4_numberFrom_213 rfl ?_
  refine g_lmul dX4_numberFrom_214 ?_
  obtain ⟨v5, ev5, hf⟩ := nm_el hf
  refine g_topL ev5 ?_
  refine g_lstore (i := 5) (L' := [(5, .long v5), (2, rv x2), (9, rv x9), (10, .int x10), (11, .int x11)]) dX4_numberFrom_215 (Nat.le_of_ble_eq_true rfl) rfl ?_
  refine g_sub (L' := [(2, rv x2), (5, .long v5), (9, rv x9)]) [1, 0, 2] rfl ?_
  exact bX4_numberFrom_217 hX1 hX2 hf

set_option maxRecDepth 100000 in
set_option maxHeartbeats 4000000 in
theorem bX4_numberFrom_147 {X : Xt} {σf : St} {r : Nat} (hX1 : X.2.2.1 = σf) (hX2 : X.2.2.2 = .inl (some (rv r))) : ∀ (n : Nat) (σ : St) (x0 : Nat) (x2 : Nat) (x5 : Int64) (x7 : Int32) (x9 : Nat) (x10 : Int32) (x11 : Int32), fX4_numberFrom_147 n σ x0 x2 x5 x7 x9 x10 x11 = some (σf, r) → G MtX4_numberFrom X σ 147 [(0, rv x0), (2, rv x2), (5, .long x5), (7, .int x7), (9, rv x9), (10, .int x10), (11, .int x11)] [] := by
  intro n
  induction n with
  | zero => intro σ x0 x2 x5 x7 x9 x10 x11 hf; cases hf
  | succ n ih =>
    intro σ x0 x2 x5 x7 x9 x10 x11 hf
    rw [fX4_numberFrom_147] at hf
    refine g_aload_n (j := 0) dX4_numberFrom_147 rfl rfl ?_
    refine g_iload (j := 3) dX4_numberFrom_148 rfl ?_
    obtain ⟨_, h3, hf⟩ := ob hf
    obtain ⟨σ1, v2, eσ1, hf⟩ := cb_el hf
    refine g_callV_i dX4_numberFrom_150 (wX4_isDigit _ eσ1) (okX4_isDigit _ (by decide) (by decide)) (ckK_el h3) hc8 t_1336 t_1338 s_X4_isDigit rfl (Nat.le_trans (cat_le _) (Nat.le_of_ble_eq_true rfl)) rfl ?_
    refine g_if_eq (tgt := 193) dX4_numberFrom_153 (by decide) (fun c4 => ?_) (fun c4 => ?_)
    · rw [if_pos c4] at hf
      refine g_sub (L' := [(2, rv x2), (5, .long x5), (9, rv x9), (10, .int x10), (11, .int x11)]) [1, 2, 4, 5, 6] rfl ?_
      exact bX4_numberFrom_193 hX1 hX2 hf
    · rw [if_neg c4] at hf
      refine g_iload (j := 6) dX4_numberFrom_156 rfl ?_
      refine g_ldc (v := 1000000) dX4_numberFrom_158 t_1436 ?_
      refine g_icmp_ge (tgt := 193) dX4_numberFrom_160 (by decide) (fun c5 => ?_) (fun c5 => ?_)
      · rw [if_pos c5] at hf
        refine g_sub (L' := [(2, rv x2), (5, .long x5), (9, rv x9), (10, .int x10), (11, .int x11)]) [1, 2, 4, 5, 6] rfl ?_
        exact bX4_numberFrom_193 hX1 hX2 hf
      · rw [if_neg c5] at hf
        refine g_iload (j := 5) dX4_numberFrom_163 rfl ?_
        refine g_bipush (v := 10) dX4_numberFrom_165 (by decide) ?_
        refine g_imul dX4_numberFrom_167 ?_
        refine g_aload_n (j := 0) dX4_numberFrom_168 rfl rfl ?_
        refine g_iload (j := 3) dX4_numberFrom_169 rfl ?_
        obtain ⟨_, h8, hf⟩ := ob hf
        obtain ⟨σ6, v7, eσ6, hf⟩ := cb_el hf
        refine g_callV_i dX4_numberFrom_171 (wX4_byteAt _ eσ6) (okX4_byteAt _ (by decide) (by decide)) (ckK_el h8) hc8 t_1320 t_1322 s_X4_byteAt rfl (Nat.le_trans (cat_le _) (Nat.le_of_ble_eq_true rfl)) rfl ?_
        refine g_iadd dX4_numberFrom_174 ?_
        refine g_bipush (v := 48) dX4_numberFrom_175 (by decide) ?_
        refine g_isub dX4_numberFrom_177 ?_
        obtain ⟨v9, ev9, hf⟩ := nm_el hf
        refine g_topI ev9 ?_
        refine g_istore (i := 10) (L' := [(10, .int v9), (0, rv x0), (2, rv x2), (5, .long x5), (7, .int x7), (9, rv x9), (11, .int x11)]) dX4_numberFrom_178 (Nat.le_of_ble_eq_true rfl) (by simp [rv_cat]) ?_
        refine g_iload (j := 6) dX4_numberFrom_180 rfl ?_
        refine g_bipush (v := 10) dX4_numberFrom_182 (by decide) ?_
        refine g_imul dX4_numberFrom_184 ?_
        obtain ⟨v10, ev10, hf⟩ := nm_el hf
        refine g_topI ev10 ?_
        refine g_istore (i := 11) (L' := [(11, .int v10), (10, .int v9), (0, rv x0), (2, rv x2), (5, .long x5), (7, .int x7), (9, rv x9)]) dX4_numberFrom_185 (Nat.le_of_ble_eq_true rfl) rfl ?_
        obtain ⟨v11, ev11, hf⟩ := nm_el hf
        refine g_iinc (L' := [(7, .int v11), (11, .int v10), (10, .int v9), (0, rv x0), (2, rv x2), (5, .long x5), (9, rv x9)]) (j := 5) (v := v11) dX4_numberFrom_187 rfl (by rw [ev11]; rfl) (Nat.le_of_ble_eq_true rfl) rfl ?_
        refine g_goto (tgt := 147) dX4_numberFrom_190 (by decide) ?_
        refine g_sub (L' := [(0, rv x0), (2, rv x2), (5, .long x5), (7, .int v11), (9, rv x9), (10, .int v9), (11, .int v10)]) [3, 4, 5, 0, 6, 2, 1] rfl ?_
        exact ih _ _ _ _ _ _ _ _ hf

set_option maxRecDepth 100000 in
set_option maxHeartbeats 4000000 in
theorem bX4_numberFrom_104 {X : Xt} {σf : St} {r : Nat} (hX1 : X.2.2.1 = σf) (hX2 : X.2.2.2 = .inl (some (rv r))) {σ : St} {x0 : Nat} {x2 : Nat} {x3 : Int64} {x5 : Int64} {x7 : Int32} {x8 : Int32} (hf : fX4_numberFrom_104 σ x0 x2 x3 x5 x7 x8 = some (σf, r)) : G MtX4_numberFrom X σ 104 [(0, rv x0), (2, rv x2), (3, .long x3), (5, .long x5), (7, .int x7), (8, .int x8)] [] := by
  unfold fX4_numberFrom_104 at hf
  obtain ⟨σ1, eσ1, hf⟩ := nm_el hf
  obtain ⟨a2, ea2, hf⟩ := nm_el hf
  refine g_new9 dX4_numberFrom_104 hc5 hin5 hty5 hdf5 t_1427 t_45 t_2 eσ1 ea2 ?_
  refine g_dup dX4_numberFrom_107 (rv_cat _) ?_
  obtain ⟨_, h5, hf⟩ := ob hf
  obtain ⟨σ3, v4, eσ3, hf⟩ := cb_el hf
  refine g_callIN dX4_numberFrom_108 (wX1_init _ eσ3) (okX1_init _ (by decide) (by decide)) rfl (by rw [ckK_el h5]; decide) rfl t_1434 t_47 rfl (Nat.le_trans (cat_le _) (Nat.le_of_ble_eq_true rfl)) rfl ?_
  refine g_astore (i := 9) (L' := [(9, rv a2), (0, rv x0), (2, rv x2), (3, .long x3), (5, .long x5), (7, .int x7), (8, .int x8)]) dX4_numberFrom_111 (Nat.le_of_ble_eq_true rfl) rfl ?_
  refine g_aload (j := 0) dX4_numberFrom_113 rfl ?_
  obtain ⟨v6, ev6, hf⟩ := ob hf
  refine g_getFN dX4_numberFrom_115 ev6 t_79 hin5 hc5 (by decide) rfl ?_
  refine g_lload_n (j := 3) dX4_numberFrom_118 rfl rfl ?_
  obtain ⟨_, h9, hf⟩ := ob hf
  obtain ⟨σ7, v8, eσ7, hf⟩ := cb_el hf
  refine g_callVN_v dX4_numberFrom_119 (wX3_setSmall _ eσ7) (okX3_setSmall _ (by decide) (by decide)) (ckK_el h9) hc7 t_1435 t_69 s_X3_setSmall rfl (Nat.le_trans (cat_le _) (Nat.le_of_ble_eq_true rfl)) rfl ?_
  refine g_iload (j := 6) dX4_numberFrom_122 rfl ?_
  refine g_if_eq (tgt := 217) dX4_numberFrom_124 (by decide) (fun c10 => ?_) (fun c10 => ?_)
  · rw [if_pos c10] at hf
    refine g_sub (L' := [(2, rv x2), (5, .long x5), (9, rv a2)]) [2, 4, 0] rfl ?_
    exact bX4_numberFrom_217 hX1 hX2 hf
  · rw [if_neg c10] at hf
    refine g_aload_n (j := 1) dX4_numberFrom_127 rfl rfl ?_
    refine g_iload (j := 5) dX4_numberFrom_128 rfl ?_
    obtain ⟨_, h13, hf⟩ := ob hf
    obtain ⟨σ11, v12, eσ11, hf⟩ := cb_el hf
    refine g_callV_i dX4_numberFrom_130 (wX4_byteAt _ eσ11) (okX4_byteAt _ (by decide) (by decide)) (ckK_el h13) hc8 t_1320 t_1322 s_X4_byteAt rfl (Nat.le_trans (cat_le _) (Nat.le_of_ble_eq_true rfl)) rfl ?_
    refine g_bipush (v := 91) dX4_numberFrom_133 (by decide) ?_
    refine g_icmp_ne (tgt := 217) dX4_numberFrom_135 (by decide) (fun c14 => ?_) (fun c14 => ?_)
    · rw [if_neg c14] at hf
      refine g_sub (L' := [(2, rv x2), (5, .long x5), (9, rv a2)]) [2, 4, 0] rfl ?_
      exact bX4_numberFrom_217 hX1 hX2 hf
    · rw [if_pos c14] at hf
      refine g_iconst (v := 0) dX4_numberFrom_138 (by decide) ?_
      refine g_istore (i := 10) (L' := [(10, .int 0), (9, rv a2), (0, rv x0), (2, rv x2), (3, .long x3), (5, .long x5), (7, .int x7), (8, .int x8)]) dX4_numberFrom_139 (Nat.le_of_ble_eq_true rfl) (by simp [rv_cat]) ?_
      refine g_iconst (v := 1) dX4_numberFrom_141 (by decide) ?_
      refine g_istore (i := 11) (L' := [(11, .int 1), (10, .int 0), (9, rv a2), (0, rv x0), (2, rv x2), (3, .long x3), (5, .long x5), (7, .int x7), (8, .int x8)]) dX4_numberFrom_142 (Nat.le_of_ble_eq_true rfl) rfl ?_
      obtain ⟨v15, ev15, hf⟩ := nm_el hf
      refine g_iinc (L' := [(7, .int v15), (11, .int 1), (10, .int 0), (9, rv a2), (0, rv x0), (2, rv x2), (3, .long x3), (5, .long x5), (8, .int x8)]) (j := 7) (v := v15) dX4_numberFrom_144 rfl (by rw [ev15]; rfl) (Nat.le_of_ble_eq_true rfl) rfl ?_
      refine g_sub (L' := [(0, rv x0), (2, rv x2), (5, .long x5), (7, .int v15), (9, rv a2), (10, .int 0), (11, .int 1)]) [4, 5, 7, 0, 3, 2, 1] rfl ?_
      exact bX4_numberFrom_147 hX1 hX2 FU _ _ _ _ _ _ _ _ hf

set_option maxRecDepth 100000 in
set_option maxHeartbeats 4000000 in
theorem bX4_numberFrom_11 {X : Xt} {σf : St} {r : Nat} (hX1 : X.2.2.1 = σf) (hX2 : X.2.2.2 = .inl (some (rv r))) : ∀ (n : Nat) (σ : St) (x0 : Nat) (x2 : Nat) (x3 : Int64) (x5 : Int64) (x7 : Int32) (x8 : Int32), fX4_numberFrom_11 n σ x0 x2 x3 x5 x7 x8 = some (σf, r) → G MtX4_numberFrom X σ 11 [(0, rv x0), (2, rv x2), (3, .long x3), (5, .long x5), (7, .int x7), (8, .int x8)] [] := by
  intro n
  induction n with
  | zero => intro σ x0 x2 x3 x5 x7 x8 hf; cases hf
  | succ n ih =>
    intro σ x0 x2 x3 x5 x7 x8 hf
    rw [fX4_numberFrom_11] at hf
    refine g_iload (j := 4) dX4_numberFrom_11 rfl ?_
    refine g_aload_n (j := 0) dX4_numberFrom_13 rfl rfl ?_
    obtain ⟨v1, ev1, hf⟩ := ob hf
    refine g_getI dX4_numberFrom_14 ev1 t_219 hin8 hc8 (by decide) rfl ?_
    refine g_icmp_ge (tgt := 104) dX4_numberFrom_17 (by decide) (fun c2 => ?_) (fun c2 => ?_)
    · rw [if_pos c2] at hf
      exact bX4_numberFrom_104 hX1 hX2 hf
    · rw [if_neg c2] at hf
      refine g_aload_n (j := 0) dX4_numberFrom_20 rfl rfl ?_
      refine g_iload (j := 4) dX4_numberFrom_21 rfl ?_
      obtain ⟨_, h5, hf⟩ := ob hf
      obtain ⟨σ3, v4, eσ3, hf⟩ := cb_el hf
      refine g_callV_i dX4_numberFrom_23 (wX4_isDigit _ eσ3) (okX4_isDigit _ (by decide) (by decide)) (ckK_el h5) hc8 t_1336 t_1338 s_X4_isDigit rfl (Nat.le_trans (cat_le _) (Nat.le_of_ble_eq_true rfl)) rfl ?_
      refine g_if_ne (tgt := 45) dX4_numberFrom_26 (by decide) (fun c6 => ?_) (fun c6 => ?_)
      · rw [if_neg c6] at hf
        exact bX4_numberFrom_45 hX1 hX2 (fun σ x0 x2 x3 x5 x7 x8 hf => ih σ x0 x2 x3 x5 x7 x8 hf) hf
      · rw [if_pos c6] at hf
        refine g_aload_n (j := 0) dX4_numberFrom_29 rfl rfl ?_
        refine g_iload (j := 4) dX4_numberFrom_30 rfl ?_
        obtain ⟨_, h9, hf⟩ := ob hf
        obtain ⟨σ7, v8, eσ7, hf⟩ := cb_el hf
        refine g_callV_i dX4_numberFrom_32 (wX4_byteAt _ eσ7) (okX4_byteAt _ (by decide) (by decide)) (ckK_el h9) hc8 t_1320 t_1322 s_X4_byteAt rfl (Nat.le_trans (cat_le _) (Nat.le_of_ble_eq_true rfl)) rfl ?_
        refine g_bipush (v := 46) dX4_numberFrom_35 (by decide) ?_
        refine g_icmp_ne (tgt := 104) dX4_numberFrom_37 (by decide) (fun c10 => ?_) (fun c10 => ?_)
        · rw [if_neg c10] at hf
          exact bX4_numberFrom_104 hX1 hX2 hf
        · rw [if_pos c10] at hf
          refine g_iload (j := 5) dX4_numberFrom_40 rfl ?_
          refine g_if_ne (tgt := 104) dX4_numberFrom_42 (by decide) (fun c11 => ?_) (fun c11 => ?_)
          · rw [if_neg c11] at hf
            exact bX4_numberFrom_104 hX1 hX2 hf
          · rw [if_pos c11] at hf
            exact bX4_numberFrom_45 hX1 hX2 (fun σ x0 x2 x3 x5 x7 x8 hf => ih σ x0 x2 x3 x5 x7 x8 hf) hf

set_option maxRecDepth 100000 in
set_option maxHeartbeats 4000000 in
theorem wX4_numberFrom (l : Launch) {σ σf : St} {x0 : Nat} {x1 : Int32} {x2 : Nat} {r : Nat} (hf : fX4_numberFrom σ x0 x1 x2 = some (σf, r)) : Con MtX4_numberFrom yX4_numberFrom l σ [rv x0, .int x1, rv x2] σf (some (rv r)) := by
  refine Con.of (by decide +kernel) rfl (fun h => absurd (show false = true from h) (by decide)) (by simp only [sl_n, sl_r, sl_i, sl_l]; exact Nat.le_of_ble_eq_true rfl) ?_
  rw [show lv_args 0 [rv x0, .int x1, rv x2] = [(0, rv x0), (1, .int x1), (2, rv x2)] by simp only [la_n, la_r, la_i, la_l] <;> rfl]
  have hX1 : ((l, σ, σf, .inl (some (rv r))) : Xt).2.2.1 = σf := rfl
  have hX2 : ((l, σ, σf, .inl (some (rv r))) : Xt).2.2.2 = .inl (some (rv r)) := rfl
  unfold fX4_numberFrom at hf
  refine g_lconst (v := 0) dX4_numberFrom_0 (by decide) ?_
  refine g_lstore_n (i := 3) (L' := [(3, .long 0), (0, rv x0), (1, .int x1), (2, rv x2)]) dX4_numberFrom_1 rfl (Nat.le_of_ble_eq_true rfl) (by simp [rv_cat]) ?_
  refine g_lconst (v := 1) dX4_numberFrom_2 (by decide) ?_
  refine g_lstore (i := 5) (L' := [(5, .long 1), (3, .long 0), (0, rv x0), (1, .int x1), (2, rv x2)]) dX4_numberFrom_3 (Nat.le_of_ble_eq_true rfl) rfl ?_
  refine g_iload_n (j := 3) dX4_numberFrom_5 rfl rfl ?_
  refine g_istore (i := 7) (L' := [(7, .int x1), (5, .long 1), (3, .long 0), (0, rv x0), (1, .int x1), (2, rv x2)]) dX4_numberFrom_6 (Nat.le_of_ble_eq_true rfl) rfl ?_
  refine g_iconst (v := 0) dX4_numberFrom_8 (by decide) ?_
  refine g_istore (i := 8) (L' := [(8, .int 0), (7, .int x1), (5, .long 1), (3, .long 0), (0, rv x0), (1, .int x1), (2, rv x2)]) dX4_numberFrom_9 (Nat.le_of_ble_eq_true rfl) rfl ?_
  refine g_sub (L' := [(0, rv x0), (2, rv x2), (3, .long 0), (5, .long 1), (7, .int x1), (8, .int 0)]) [4, 6, 3, 2, 1, 0] rfl ?_
  exact bX4_numberFrom_11 hX1 hX2 FU _ _ _ _ _ _ _ hf

theorem okX4_numberFrom (M : Mt) (h1 : 6 + 1 ≤ M.2.2.2.2.1) (h2 : 8 + (12 + 11) + 248 ≤ M.2.2.2.2.2.1) : CallOk M MtX4_numberFrom yX4_numberFrom 2 := ⟨t_1431, h1, h2, ⟨by decide, by decide⟩, by decide +kernel, t_10⟩
abbrev MtX4_readNumbers : Mt := (cX4_readNumbers, 4, "ExactlySaid$Reader", (Option.some (Jvm.ClassFile.FieldType.array (Jvm.ClassFile.FieldType.object "ExactlySaid$Fraction"))), 7, 279, false)
set_option maxRecDepth 100000 in
set_option maxHeartbeats 4000000 in
theorem bX4_readNumbers_59 {X : Xt} {σf : St} {r : Nat} (hX1 : X.2.2.1 = σf) (hX2 : X.2.2.2 = .inl (some (rv r))) {k10 : St → Nat → Nat → Nat → Int32 → Option (St × Nat)} (hk10 : ∀ (σ : St) (x0 : Nat) (x1 : Nat) (x2 : Nat) (x3 : Int32), k10 σ x0 x1 x2 x3 = some (σf, r) → G MtX4_readNumbers X σ 10 [(0, rv x0), (1, rv x1), (2, rv x2), (3, .int x3)] []) {σ : St} {x0 : Nat} {x1 : Nat} {x2 : Nat} {x3 : Int32} (hf : fX4_readNumbers_59 k10 σ x0 x1 x2 x3 = some (σf, r)) : G MtX4_readNumbers X σ 59 [(0, rv x0), (1, rv x1), (2, rv x2), (3, .int x3)] [] := by
  unfold fX4_readNumbers_59 at hf
  obtain ⟨v1, ev1, hf⟩ := nm_el hf
  refine g_iinc (L' := [(3, .int v1), (0, rv x0), (1, rv x1), (2, rv x2)]) (j := 3) (v := v1) dX4_readNumbers_59 rfl (by rw [ev1]; rfl) (Nat.le_of_ble_eq_true rfl) (by simp [rv_cat]) ?_
  refine g_goto (tgt := 10) dX4_readNumbers_62 (by decide) ?_
  refine g_sub (L' := [(0, rv x0), (1, rv x1), (2, rv x2), (3, .int v1)]) [1, 2, 3, 0] rfl ?_
  exact hk10 _ _ _ _ _ hf

set_option maxRecDepth 100000 in
set_option maxHeartbeats 4000000 in
theorem bX4_readNumbers_10 {X : Xt} {σf : St} {r : Nat} (hX1 : X.2.2.1 = σf) (hX2 : X.2.2.2 = .inl (some (rv r))) : ∀ (n : Nat) (σ : St) (x0 : Nat) (x1 : Nat) (x2 : Nat) (x3 : Int32), fX4_readNumbers_10 n σ x0 x1 x2 x3 = some (σf, r) → G MtX4_readNumbers X σ 10 [(0, rv x0), (1, rv x1), (2, rv x2), (3, .int x3)] [] := by
  intro n
  induction n with
  | zero => intro σ x0 x1 x2 x3 hf; cases hf
  | succ n ih =>
    intro σ x0 x1 x2 x3 hf
    rw [fX4_readNumbers_10] at hf
    refine g_iload_n (j := 3) dX4_readNumbers_10 rfl rfl ?_
    refine g_aload_n (j := 0) dX4_readNumbers_11 rfl rfl ?_
    obtain ⟨v1, ev1, hf⟩ := ob hf
    refine g_getI dX4_readNumbers_12 ev1 t_229 hin8 hc8 (by decide) rfl ?_
    refine g_icmp_ge (tgt := 65) dX4_readNumbers_15 (by decide) (fun c2 => ?_) (fun c2 => ?_)
    · rw [if_pos c2] at hf
      refine g_aload_n (j := 2) dX4_readNumbers_65 rfl rfl ?_
      exact g_aret dX4_readNumbers_66 rfl rfl hX2 hX1 hf
    · rw [if_neg c2] at hf
      refine g_aload_n (j := 0) dX4_readNumbers_18 rfl rfl ?_
      obtain ⟨v3, ev3, hf⟩ := ob hf
      refine g_getF dX4_readNumbers_19 ev3 t_225 hin8 hc8 (by decide) rfl ?_
      refine g_iload_n (j := 3) dX4_readNumbers_22 rfl rfl ?_
      obtain ⟨v4, ev4, hf⟩ := ob hf
      refine g_iald dX4_readNumbers_23 ev4 ?_
      refine g_bipush (v := 21) dX4_readNumbers_24 (by decide) ?_
      refine g_icmp_ne (tgt := 59) dX4_readNumbers_26 (by decide) (fun c5 => ?_) (fun c5 => ?_)
      · rw [if_neg c5] at hf
        exact bX4_readNumbers_59 hX1 hX2 (fun σ x0 x1 x2 x3 hf => ih σ x0 x1 x2 x3 hf) hf
      · rw [if_pos c5] at hf
        refine g_aload_n (j := 0) dX4_readNumbers_29 rfl rfl ?_
        obtain ⟨v6, ev6, hf⟩ := ob hf
        refine g_getF dX4_readNumbers_30 ev6 t_226 hin8 hc8 (by decide) rfl ?_
        refine g_iload_n (j := 3) dX4_readNumbers_33 rfl rfl ?_
        obtain ⟨v7, ev7, hf⟩ := ob hf
        refine g_iald dX4_readNumbers_34 ev7 ?_
        refine g_aload_n (j := 2) dX4_readNumbers_35 rfl rfl ?_
        obtain ⟨v8, ev8, hf⟩ := ob hf
        refine g_alen dX4_readNumbers_36 ev8 ?_
        refine g_icmp_ge (tgt := 59) dX4_readNumbers_37 (by decide) (fun c9 => ?_) (fun c9 => ?_)
        · rw [if_pos c9] at hf
          exact bX4_readNumbers_59 hX1 hX2 (fun σ x0 x1 x2 x3 hf => ih σ x0 x1 x2 x3 hf) hf
        · rw [if_neg c9] at hf
          refine g_aload_n (j := 2) dX4_readNumbers_40 rfl rfl ?_
          refine g_aload_n (j := 0) dX4_readNumbers_41 rfl rfl ?_
          obtain ⟨v10, ev10, hf⟩ := ob hf
          refine g_getF dX4_readNumbers_42 ev10 t_226 hin8 hc8 (by decide) rfl ?_
          refine g_iload_n (j := 3) dX4_readNumbers_45 rfl rfl ?_
          obtain ⟨v11, ev11, hf⟩ := ob hf
          refine g_iald dX4_readNumbers_46 ev11 ?_
          refine g_aload_n (j := 0) dX4_readNumbers_47 rfl rfl ?_
          refine g_aload_n (j := 0) dX4_readNumbers_48 rfl rfl ?_
          obtain ⟨v12, ev12, hf⟩ := ob hf
          refine g_getF dX4_readNumbers_49 ev12 t_227 hin8 hc8 (by decide) rfl ?_
          refine g_iload_n (j := 3) dX4_readNumbers_52 rfl rfl ?_
          obtain ⟨v13, ev13, hf⟩ := ob hf
          refine g_iald dX4_readNumbers_53 ev13 ?_
          refine g_aload_n (j := 1) dX4_readNumbers_54 rfl rfl ?_
          obtain ⟨_, h16, hf⟩ := ob hf
          obtain ⟨σ14, a15, eσ14, hf⟩ := cb_el hf
          refine g_callV_q dX4_readNumbers_55 (wX4_numberFrom _ eσ14) (okX4_numberFrom _ (by decide) (by decide)) (ckK_el h16) hc8 t_1428 t_1430 s_X4_numberFrom rfl (Nat.le_trans (cat_le _) (Nat.le_of_ble_eq_true rfl)) rfl ?_
          obtain ⟨σ17, eσ17, hf⟩ := ob hf
          refine g_aast dX4_readNumbers_58 (by decide) rfl hc5 eσ17 ?_
          exact bX4_readNumbers_59 hX1 hX2 (fun σ x0 x1 x2 x3 hf => ih σ x0 x1 x2 x3 hf) hf

set_option maxRecDepth 100000 in
set_option maxHeartbeats 4000000 in
theorem wX4_readNumbers (l : Launch) {σ σf : St} {x0 : Nat} {x1 : Nat} {r : Nat} (hf : fX4_readNumbers σ x0 x1 = some (σf, r)) : Con MtX4_readNumbers yX4_readNumbers l σ [rv x0, rv x1] σf (some (rv r)) := by
  refine Con.of (by decide +kernel) rfl (fun h => absurd (show false = true from h) (by decide)) (by simp only [sl_n, sl_r, sl_i, sl_l]; exact Nat.le_of_ble_eq_true rfl) ?_
  rw [show lv_args 0 [rv x0, rv x1] = [(0, rv x0), (1, rv x1)] by simp only [la_n, la_r, la_i, la_l] <;> rfl]
  have hX1 : ((l, σ, σf, .inl (some (rv r))) : Xt).2.2.1 = σf := rfl
  have hX2 : ((l, σ, σf, .inl (some (rv r))) : Xt).2.2.2 = .inl (some (rv r)) := rfl
  unfold fX4_readNumbers at hf
  refine g_aload_n (j := 0) dX4_readNumbers_0 rfl rfl ?_
  obtain ⟨v1, ev1, hf⟩ := ob hf
  refine g_getI dX4_readNumbers_1 ev1 t_230 hin8 hc8 (by decide) rfl ?_
  obtain ⟨σ2, eσ2, hf⟩ := ob hf
  obtain ⟨a3, ea3, hf⟩ := nm_el hf
  refine g_newq9 dX4_readNumbers_4 eσ2 (by decide) rfl t_1427 t_93 ea3 ?_
  refine g_astore_n (i := 2) (L' := [(2, rv a3), (0, rv x0), (1, rv x1)]) dX4_readNumbers_7 rfl (Nat.le_of_ble_eq_true rfl) (by simp [rv_cat]) ?_
  refine g_iconst (v := 0) dX4_readNumbers_8 (by decide) ?_
  refine g_istore_n (i := 3) (L' := [(3, .int 0), (2, rv a3), (0, rv x0), (1, rv x1)]) dX4_readNumbers_9 rfl (Nat.le_of_ble_eq_true rfl) (by simp [rv_cat]) ?_
  refine g_sub (L' := [(0, rv x0), (1, rv x1), (2, rv a3), (3, .int 0)]) [2, 3, 1, 0] rfl ?_
  exact bX4_readNumbers_10 hX1 hX2 FU _ _ _ _ _ hf

theorem okX4_readNumbers (M : Mt) (h1 : 7 + 1 ≤ M.2.2.2.2.1) (h2 : 8 + (4 + 11) + 279 ≤ M.2.2.2.2.2.1) : CallOk M MtX4_readNumbers yX4_readNumbers 1 := ⟨t_1426, h1, h2, ⟨by decide, by decide⟩, by decide +kernel, t_10⟩
abbrev MtX9_init : Mt := (cX9_init, 6, "ExactlySaid$Sum", none, 1, 84, true)
set_option maxRecDepth 100000 in
set_option maxHeartbeats 4000000 in
theorem wX9_init (l : Launch) {σ σf : St} {x0 : Nat} {x1 : Nat} {x2 : Nat} {x3 : Nat} {x4 : Nat} {x5 : Nat} {r : Unit} (hf : fX9_init σ x0 x1 x2 x3 x4 x5 = some (σf, r)) : Con MtX9_init yX9_init l σ [rv x0, rv x1, rv x2, rv x3, rv x4, rv x5] σf (none) := by
  refine Con.of (by decide +kernel) rfl (fun _ => rfl) (by simp only [sl_n, sl_r, sl_i, sl_l]; exact Nat.le_of_ble_eq_true rfl) ?_
  rw [show lv_args 0 [rv x0, rv x1, rv x2, rv x3, rv x4, rv x5] = [(0, rv x0), (1, rv x1), (2, rv x2), (3, rv x3), (4, rv x4), (5, rv x5)] by simp only [la_n, la_r, la_i, la_l] <;> rfl]
  have hX1 : ((l, σ, σf, .inl (none)) : Xt).2.2.1 = σf := rfl
  have hX2 : ((l, σ, σf, .inl (none)) : Xt).2.2.2 = .inl (none) := rfl
  unfold fX9_init at hf
  refine g_aload_n (j := 0) dX9_init_0 rfl rfl ?_
  obtain ⟨_, h1, hf⟩ := ob hf
  refine g_objInit dX9_init_1 (of_decide_eq_true (ckP_el h1)) t_1443 t_42 t_43 (by decide) (by decide) (Nat.le_of_ble_eq_true rfl) ?_
  refine g_aload_n (j := 0) dX9_init_4 rfl rfl ?_
  refine g_aload_n (j := 1) dX9_init_5 rfl rfl ?_
  obtain ⟨σ2, eσ2, hf⟩ := ob hf
  refine g_putF dX9_init_6 eσ2 (Or.inl t_1444) hin13 hc13 (by decide) hty13 hnm13 (Or.inr ⟨rfl, rfl, t_1444⟩) rfl ?_
  refine g_aload_n (j := 0) dX9_init_9 rfl rfl ?_
  refine g_aload_n (j := 2) dX9_init_10 rfl rfl ?_
  obtain ⟨σ3, eσ3, hf⟩ := ob hf
  refine g_putF dX9_init_11 eσ3 (Or.inl t_1447) hin13 hc13 (by decide) hty13 hnm13 (Or.inr ⟨rfl, rfl, t_1447⟩) rfl ?_
  refine g_aload_n (j := 0) dX9_init_14 rfl rfl ?_
  refine g_aload_n (j := 3) dX9_init_15 rfl rfl ?_
  obtain ⟨σ4, eσ4, hf⟩ := ob hf
  refine g_putF dX9_init_16 eσ4 (Or.inl t_1450) hin13 hc13 (by decide) hty13 hnm13 (Or.inr ⟨rfl, rfl, t_1450⟩) rfl ?_
  refine g_aload_n (j := 0) dX9_init_19 rfl rfl ?_
  refine g_aload (j := 4) dX9_init_20 rfl ?_
  obtain ⟨σ5, eσ5, hf⟩ := ob hf
  refine g_putF dX9_init_22 eσ5 (Or.inl t_1453) hin13 hc13 (by decide) hty13 hnm13 (Or.inr ⟨rfl, rfl, t_1453⟩) rfl ?_
  refine g_aload_n (j := 0) dX9_init_25 rfl rfl ?_
  refine g_aload (j := 5) dX9_init_26 rfl ?_
  obtain ⟨σ6, eσ6, hf⟩ := ob hf
  refine g_putF dX9_init_28 eσ6 (Or.inl t_1455) hin13 hc13 (by decide) hty13 hnm13 (Or.inr ⟨rfl, rfl, t_1455⟩) rfl ?_
  exact g_vret dX9_init_31 rfl hX2 hX1 hf

theorem okX9_init (M : Mt) (h1 : 1 + 1 ≤ M.2.2.2.2.1) (h2 : 8 + (6 + 11) + 84 ≤ M.2.2.2.2.2.1) : CallOk M MtX9_init yX9_init 5 := ⟨t_1442, h1, h2, ⟨by decide, by decide⟩, by decide +kernel, t_22⟩
abbrev MtX4_readSum (d : Nat) : Mt := (cX4_readSum, 4, "ExactlySaid$Reader", (Option.some Jvm.ClassFile.FieldType.boolean), 4 + d, 400 + 40 * d, false)
theorem okX4_readSum (d : Nat) (M : Mt) (h1 : 4 + d + 1 ≤ M.2.2.2.2.1) (h2 : 8 + (4 + 11) + (400 + 40 * d) ≤ M.2.2.2.2.2.1) : CallOk M (MtX4_readSum d) yX4_readSum 1 := ⟨t_1383, h1, h2, ⟨by decide, by decide⟩, by decide +kernel, t_10⟩
abbrev MtX4_readProduct (d : Nat) : Mt := (cX4_readProduct, 4, "ExactlySaid$Reader", (Option.some Jvm.ClassFile.FieldType.boolean), 4 + d, 400 + 40 * d, false)
theorem okX4_readProduct (d : Nat) (M : Mt) (h1 : 4 + d + 1 ≤ M.2.2.2.2.1) (h2 : 8 + (4 + 11) + (400 + 40 * d) ≤ M.2.2.2.2.2.1) : CallOk M (MtX4_readProduct d) yX4_readProduct 1 := ⟨t_1387, h1, h2, ⟨by decide, by decide⟩, by decide +kernel, t_10⟩
abbrev MtX4_readMinus (d : Nat) : Mt := (cX4_readMinus, 3, "ExactlySaid$Reader", (Option.some Jvm.ClassFile.FieldType.boolean), 4 + d, 400 + 40 * d, false)
theorem okX4_readMinus (d : Nat) (M : Mt) (h1 : 4 + d + 1 ≤ M.2.2.2.2.1) (h2 : 8 + (3 + 11) + (400 + 40 * d) ≤ M.2.2.2.2.2.1) : CallOk M (MtX4_readMinus d) yX4_readMinus 1 := ⟨t_1391, h1, h2, ⟨by decide, by decide⟩, by decide +kernel, t_10⟩
abbrev MtX4_readOpened (d : Nat) : Mt := (cX4_readOpened, 2, "ExactlySaid$Reader", (Option.some Jvm.ClassFile.FieldType.boolean), 4 + d, 400 + 40 * d, false)
theorem okX4_readOpened (d : Nat) (M : Mt) (h1 : 4 + d + 1 ≤ M.2.2.2.2.1) (h2 : 8 + (2 + 11) + (400 + 40 * d) ≤ M.2.2.2.2.2.1) : CallOk M (MtX4_readOpened d) yX4_readOpened 1 := ⟨t_1395, h1, h2, ⟨by decide, by decide⟩, by decide +kernel, t_10⟩
abbrev MtX4_readPlain (d : Nat) : Mt := (cX4_readPlain, 4, "ExactlySaid$Reader", (Option.some Jvm.ClassFile.FieldType.boolean), 4 + d, 400 + 40 * d, false)
theorem okX4_readPlain (d : Nat) (M : Mt) (h1 : 4 + d + 1 ≤ M.2.2.2.2.1) (h2 : 8 + (4 + 11) + (400 + 40 * d) ≤ M.2.2.2.2.2.1) : CallOk M (MtX4_readPlain d) yX4_readPlain 1 := ⟨t_1403, h1, h2, ⟨by decide, by decide⟩, by decide +kernel, t_10⟩
abbrev MtX4_readCall (d : Nat) : Mt := (cX4_readCall, 7, "ExactlySaid$Reader", (Option.some Jvm.ClassFile.FieldType.boolean), 4 + d, 400 + 40 * d, false)
theorem okX4_readCall (d : Nat) (M : Mt) (h1 : 4 + d + 1 ≤ M.2.2.2.2.1) (h2 : 8 + (7 + 11) + (400 + 40 * d) ≤ M.2.2.2.2.2.1) : CallOk M (MtX4_readCall d) yX4_readCall 3 := ⟨t_1407, h1, h2, ⟨by decide, by decide⟩, by decide +kernel, t_10⟩
set_option maxRecDepth 100000 in
set_option maxHeartbeats 4000000 in
theorem bX4_readSum_65 {X : Xt} {d : Nat} {q_readProduct : St → Nat → Int32 → Option (St × Int32)} (hq_readProduct : ∀ (σ σf : St) (a : Nat) (z0 r : Int32), q_readProduct σ a z0 = some (σf, r) → Con (MtX4_readProduct d) yX4_readProduct X.1 σ [rv a, .int z0] σf (some (.int r))) {σf : St} {r : Int32} (hX1 : X.2.2.1 = σf) (hX2 : X.2.2.2 = .inl (some (.int r))) {k10 : St → Nat → Int32 → Option (St × Int32)} (hk10 : ∀ (σ : St) (x0 : Nat) (x1 : Int32), k10 σ x0 x1 = some (σf, r) → G (MtX4_readSum (d + 1)) X σ 10 [(0, rv x0), (1, .int x1)] []) {σ : St} {x0 : Nat} {x1 : Int32} {y0 : Int32} (hf : fX4_readSum_65 q_readProduct k10 σ x0 x1 y0 = some (σf, r)) : G (MtX4_readSum (d + 1)) X σ 65 [(0, rv x0), (1, .int x1)] [.int y0] := by
  unfold fX4_readSum_65 at hf
  refine g_istore_n (i := 2) (L' := [(2, .int y0), (0, rv x0), (1, .int x1)]) dX4_readSum_65 rfl (Nat.le_of_ble_eq_true rfl) rfl ?_
  refine g_aload_n (j := 1) dX4_readSum_66 rfl rfl ?_
  refine g_aload_n (j := 1) dX4_readSum_67 rfl rfl ?_
  obtain ⟨v1, ev1, hf⟩ := ob hf
  refine g_getI dX4_readSum_68 ev1 t_224 hin8 hc8 (by decide) rfl ?_
  obtain ⟨_, h4, hf⟩ := ob hf
  obtain ⟨σ2, v3, eσ2, hf⟩ := cb_el hf
  refine g_callV_i dX4_readSum_71 (wX4_startAt _ eσ2) (okX4_startAt _ (by dsimp only [MtX4_readSum]; omega) (by dsimp only [MtX4_readSum]; omega)) (ckK_el h4) hc8 t_1372 t_1374 s_X4_startAt rfl (Nat.le_trans (cat_le _) (Nat.le_of_ble_eq_true rfl)) rfl ?_
  refine g_istore_n (i := 3) (L' := [(3, .int v3), (2, .int y0), (0, rv x0), (1, .int x1)]) dX4_readSum_74 rfl (Nat.le_of_ble_eq_true rfl) rfl ?_
  refine g_aload_n (j := 2) dX4_readSum_75 rfl rfl ?_
  refine g_dup dX4_readSum_76 (rv_cat _) ?_
  obtain ⟨v5, ev5, hf⟩ := ob hf
  refine g_getI dX4_readSum_77 ev5 t_224 hin8 hc8 (by decide) rfl ?_
  refine g_iconst (v := 1) dX4_readSum_80 (by decide) ?_
  refine g_iadd dX4_readSum_81 ?_
  obtain ⟨σ6, eσ6, hf⟩ := ob hf
  refine g_putI dX4_readSum_82 eσ6 (Or.inl t_224) hin8 hc8 (by decide) hty8 hnm8 (Or.inl rfl) rfl rfl rfl ?_
  refine g_aload_n (j := 2) dX4_readSum_85 rfl rfl ?_
  refine g_iload_n (j := 3) dX4_readSum_86 rfl rfl ?_
  obtain ⟨_, h9, hf⟩ := ob hf
  obtain ⟨σ7, v8, eσ7, hf⟩ := cb_el hf
  refine g_callV_i dX4_readSum_87 (hq_readProduct _ _ _ _ _ eσ7) (okX4_readProduct d _ (by dsimp only [MtX4_readSum]; omega) (by dsimp only [MtX4_readSum]; omega)) (ckK_el h9) hc8 t_1384 t_1386 s_X4_readProduct rfl (Nat.le_trans (cat_le _) (Nat.le_of_ble_eq_true rfl)) rfl ?_
  refine g_if_ne (tgt := 95) dX4_readSum_90 (by decide) (fun c10 => ?_) (fun c10 => ?_)
  · rw [if_neg c10] at hf
    refine g_aload_n (j := 2) dX4_readSum_95 rfl rfl ?_
    refine g_iload_n (j := 1) dX4_readSum_96 rfl rfl ?_
    refine g_iconst (v := 0) dX4_readSum_97 (by decide) ?_
    refine g_iload_n (j := 0) dX4_readSum_98 rfl rfl ?_
    refine g_iconst (v := 0) dX4_readSum_99 (by decide) ?_
    obtain ⟨_, h13, hf⟩ := ob hf
    obtain ⟨σ11, v12, eσ11, hf⟩ := cb_el hf
    refine g_callV_v dX4_readSum_100 (wX4_emit _ eσ11) (okX4_emit _ (by dsimp only [MtX4_readSum]; omega) (by dsimp only [MtX4_readSum]; omega)) (ckK_el h13) hc8 t_1396 t_1398 s_X4_emit rfl (Nat.le_trans (cat_le _) (Nat.le_of_ble_eq_true rfl)) rfl ?_
    refine g_goto (tgt := 10) dX4_readSum_103 (by decide) ?_
    refine g_sub (L' := [(0, rv x0), (1, .int x1)]) [2, 3] rfl ?_
    exact hk10 _ _ _ hf
  · rw [if_pos c10] at hf
    refine g_iconst (v := 0) dX4_readSum_93 (by decide) ?_
    exact g_iret dX4_readSum_94 rfl (by decide) hX2 hX1 hf

set_option maxRecDepth 100000 in
set_option maxHeartbeats 4000000 in
theorem bX4_readSum_47 {X : Xt} {d : Nat} {q_readProduct : St → Nat → Int32 → Option (St × Int32)} (hq_readProduct : ∀ (σ σf : St) (a : Nat) (z0 r : Int32), q_readProduct σ a z0 = some (σf, r) → Con (MtX4_readProduct d) yX4_readProduct X.1 σ [rv a, .int z0] σf (some (.int r))) {σf : St} {r : Int32} (hX1 : X.2.2.1 = σf) (hX2 : X.2.2.2 = .inl (some (.int r))) {k10 : St → Nat → Int32 → Option (St × Int32)} (hk10 : ∀ (σ : St) (x0 : Nat) (x1 : Int32), k10 σ x0 x1 = some (σf, r) → G (MtX4_readSum (d + 1)) X σ 10 [(0, rv x0), (1, .int x1)] []) {σ : St} {x0 : Nat} {x1 : Int32} (hf : fX4_readSum_47 q_readProduct k10 σ x0 x1 = some (σf, r)) : G (MtX4_readSum (d + 1)) X σ 47 [(0, rv x0), (1, .int x1)] [] := by
  unfold fX4_readSum_47 at hf
  refine g_aload_n (j := 0) dX4_readSum_47 rfl rfl ?_
  refine g_aload_n (j := 0) dX4_readSum_48 rfl rfl ?_
  obtain ⟨v1, ev1, hf⟩ := ob hf
  refine g_getI dX4_readSum_49 ev1 t_224 hin8 hc8 (by decide) rfl ?_
  obtain ⟨_, h4, hf⟩ := ob hf
  obtain ⟨σ2, v3, eσ2, hf⟩ := cb_el hf
  refine g_callV_i dX4_readSum_52 (wX4_tokenAt _ eσ2) (okX4_tokenAt _ (by dsimp only [MtX4_readSum]; omega) (by dsimp only [MtX4_readSum]; omega)) (ckK_el h4) hc8 t_1364 t_1366 s_X4_tokenAt rfl (Nat.le_trans (cat_le _) (Nat.le_of_ble_eq_true rfl)) rfl ?_
  refine g_bipush (v := 43) dX4_readSum_55 (by decide) ?_
  refine g_icmp_ne (tgt := 64) dX4_readSum_57 (by decide) (fun c5 => ?_) (fun c5 => ?_)
  · rw [if_neg c5] at hf
    refine g_iconst (v := 2) dX4_readSum_64 (by decide) ?_
    exact bX4_readSum_65 hq_readProduct hX1 hX2 hk10 hf
  · rw [if_pos c5] at hf
    refine g_iconst (v := 1) dX4_readSum_60 (by decide) ?_
    refine g_goto (tgt := 65) dX4_readSum_61 (by decide) ?_
    exact bX4_readSum_65 hq_readProduct hX1 hX2 hk10 hf

set_option maxRecDepth 100000 in
set_option maxHeartbeats 4000000 in
theorem bX4_readSum_10 {X : Xt} {d : Nat} {q_readProduct : St → Nat → Int32 → Option (St × Int32)} (hq_readProduct : ∀ (σ σf : St) (a : Nat) (z0 r : Int32), q_readProduct σ a z0 = some (σf, r) → Con (MtX4_readProduct d) yX4_readProduct X.1 σ [rv a, .int z0] σf (some (.int r))) {σf : St} {r : Int32} (hX1 : X.2.2.1 = σf) (hX2 : X.2.2.2 = .inl (some (.int r))) : ∀ (n : Nat) (σ : St) (x0 : Nat) (x1 : Int32), fX4_readSum_10 q_readProduct n σ x0 x1 = some (σf, r) → G (MtX4_readSum (d + 1)) X σ 10 [(0, rv x0), (1, .int x1)] [] := by
  intro n
  induction n with
  | zero => intro σ x0 x1 hf; cases hf
  | succ n ih =>
    intro σ x0 x1 hf
    rw [fX4_readSum_10] at hf
    refine g_aload_n (j := 0) dX4_readSum_10 rfl rfl ?_
    obtain ⟨v1, ev1, hf⟩ := ob hf
    refine g_getI dX4_readSum_11 ev1 t_224 hin8 hc8 (by decide) rfl ?_
    refine g_aload_n (j := 0) dX4_readSum_14 rfl rfl ?_
    obtain ⟨v2, ev2, hf⟩ := ob hf
    refine g_getI dX4_readSum_15 ev2 t_223 hin8 hc8 (by decide) rfl ?_
    refine g_icmp_ge (tgt := 106) dX4_readSum_18 (by decide) (fun c3 => ?_) (fun c3 => ?_)
    · rw [if_pos c3] at hf
      refine g_iconst (v := 1) dX4_readSum_106 (by decide) ?_
      exact g_iret dX4_readSum_107 rfl (by decide) hX2 hX1 hf
    · rw [if_neg c3] at hf
      refine g_aload_n (j := 0) dX4_readSum_21 rfl rfl ?_
      refine g_aload_n (j := 0) dX4_readSum_22 rfl rfl ?_
      obtain ⟨v4, ev4, hf⟩ := ob hf
      refine g_getI dX4_readSum_23 ev4 t_224 hin8 hc8 (by decide) rfl ?_
      obtain ⟨_, h7, hf⟩ := ob hf
      obtain ⟨σ5, v6, eσ5, hf⟩ := cb_el hf
      refine g_callV_i dX4_readSum_26 (wX4_tokenAt _ eσ5) (okX4_tokenAt _ (by dsimp only [MtX4_readSum]; omega) (by dsimp only [MtX4_readSum]; omega)) (ckK_el h7) hc8 t_1364 t_1366 s_X4_tokenAt rfl (Nat.le_trans (cat_le _) (Nat.le_of_ble_eq_true rfl)) rfl ?_
      refine g_bipush (v := 43) dX4_readSum_29 (by decide) ?_
      refine g_icmp_eq (tgt := 47) dX4_readSum_31 (by decide) (fun c8 => ?_) (fun c8 => ?_)
      · rw [if_pos c8] at hf
        exact bX4_readSum_47 hq_readProduct hX1 hX2 (fun σ x0 x1 hf => ih σ x0 x1 hf) hf
      · rw [if_neg c8] at hf
        refine g_aload_n (j := 0) dX4_readSum_34 rfl rfl ?_
        refine g_aload_n (j := 0) dX4_readSum_35 rfl rfl ?_
        obtain ⟨v9, ev9, hf⟩ := ob hf
        refine g_getI dX4_readSum_36 ev9 t_224 hin8 hc8 (by decide) rfl ?_
        obtain ⟨_, h12, hf⟩ := ob hf
        obtain ⟨σ10, v11, eσ10, hf⟩ := cb_el hf
        refine g_callV_i dX4_readSum_39 (wX4_tokenAt _ eσ10) (okX4_tokenAt _ (by dsimp only [MtX4_readSum]; omega) (by dsimp only [MtX4_readSum]; omega)) (ckK_el h12) hc8 t_1364 t_1366 s_X4_tokenAt rfl (Nat.le_trans (cat_le _) (Nat.le_of_ble_eq_true rfl)) rfl ?_
        refine g_bipush (v := 45) dX4_readSum_42 (by decide) ?_
        refine g_icmp_ne (tgt := 106) dX4_readSum_44 (by decide) (fun c13 => ?_) (fun c13 => ?_)
        · rw [if_neg c13] at hf
          refine g_iconst (v := 1) dX4_readSum_106 (by decide) ?_
          exact g_iret dX4_readSum_107 rfl (by decide) hX2 hX1 hf
        · rw [if_pos c13] at hf
          exact bX4_readSum_47 hq_readProduct hX1 hX2 (fun σ x0 x1 hf => ih σ x0 x1 hf) hf

set_option maxRecDepth 100000 in
set_option maxHeartbeats 4000000 in
theorem wX4_readSum (l : Launch) {d : Nat} {q_readProduct : St → Nat → Int32 → Option (St × Int32)} (hq_readProduct : ∀ (σ σf : St) (a : Nat) (z0 r : Int32), q_readProduct σ a z0 = some (σf, r) → Con (MtX4_readProduct d) yX4_readProduct l σ [rv a, .int z0] σf (some (.int r))) {σ σf : St} {x0 : Nat} {x1 : Int32} {r : Int32} (hf : fX4_readSum q_readProduct σ x0 x1 = some (σf, r)) : Con (MtX4_readSum (d + 1)) yX4_readSum l σ [rv x0, .int x1] σf (some (.int r)) := by
  refine Con.of (by decide +kernel) rfl (fun h => absurd (show false = true from h) (by decide)) (by simp only [sl_n, sl_r, sl_i, sl_l]; exact Nat.le_of_ble_eq_true rfl) ?_
  rw [show lv_args 0 [rv x0, .int x1] = [(0, rv x0), (1, .int x1)] by simp only [la_n, la_r, la_i, la_l] <;> rfl]
  have hX1 : ((l, σ, σf, .inl (some (.int r))) : Xt).2.2.1 = σf := rfl
  have hX2 : ((l, σ, σf, .inl (some (.int r))) : Xt).2.2.2 = .inl (some (.int r)) := rfl
  unfold fX4_readSum at hf
  refine g_aload_n (j := 0) dX4_readSum_0 rfl rfl ?_
  refine g_iload_n (j := 1) dX4_readSum_1 rfl rfl ?_
  obtain ⟨_, h3, hf⟩ := ob hf
  obtain ⟨σ1, v2, eσ1, hf⟩ := cb_el hf
  refine g_callV_i dX4_readSum_2 (hq_readProduct _ _ _ _ _ eσ1) (okX4_readProduct d _ (by dsimp only [MtX4_readSum]; omega) (by dsimp only [MtX4_readSum]; omega)) (ckK_el h3) hc8 t_1384 t_1386 s_X4_readProduct rfl (Nat.le_trans (cat_le _) (Nat.le_of_ble_eq_true rfl)) rfl ?_
  refine g_if_ne (tgt := 10) dX4_readSum_5 (by decide) (fun c4 => ?_) (fun c4 => ?_)
  · rw [if_neg c4] at hf
    exact bX4_readSum_10 hq_readProduct hX1 hX2 FU _ _ _ hf
  · rw [if_pos c4] at hf
    refine g_iconst (v := 0) dX4_readSum_8 (by decide) ?_
    exact g_iret dX4_readSum_9 rfl (by decide) hX2 hX1 hf

set_option maxRecDepth 100000 in
set_option maxHeartbeats 4000000 in
theorem bX4_readProduct_10 {X : Xt} {d : Nat} {q_readMinus : St → Nat → Int32 → Option (St × Int32)} (hq_readMinus : ∀ (σ σf : St) (a : Nat) (z0 r : Int32), q_readMinus σ a z0 = some (σf, r) → Con (MtX4_readMinus d) yX4_readMinus X.1 σ [rv a, .int z0] σf (some (.int r))) {σf : St} {r : Int32} (hX1 : X.2.2.1 = σf) (hX2 : X.2.2.2 = .inl (some (.int r))) : ∀ (n : Nat) (σ : St) (x0 : Nat) (x1 : Int32), fX4_readProduct_10 q_readMinus n σ x0 x1 = some (σf, r) → G (MtX4_readProduct (d + 1)) X σ 10 [(0, rv x0), (1, .int x1)] [] := by
  intro n
  induction n with
  | zero => intro σ x0 x1 hf; cases hf
  | succ n ih =>
    intro σ x0 x1 hf
    rw [fX4_readProduct_10] at hf
    refine g_aload_n (j := 0) dX4_readProduct_10 rfl rfl ?_
    obtain ⟨v1, ev1, hf⟩ := ob hf
    refine g_getI dX4_readProduct_11 ev1 t_224 hin8 hc8 (by decide) rfl ?_
    refine g_aload_n (j := 0) dX4_readProduct_14 rfl rfl ?_
    obtain ⟨v2, ev2, hf⟩ := ob hf
    refine g_getI dX4_readProduct_15 ev2 t_223 hin8 hc8 (by decide) rfl ?_
    refine g_icmp_ge (tgt := 87) dX4_readProduct_18 (by decide) (fun c3 => ?_) (fun c3 => ?_)
    · rw [if_pos c3] at hf
      refine g_iconst (v := 1) dX4_readProduct_87 (by decide) ?_
      exact g_iret dX4_readProduct_88 rfl (by decide) hX2 hX1 hf
    · rw [if_neg c3] at hf
      refine g_aload_n (j := 0) dX4_readProduct_21 rfl rfl ?_
      refine g_aload_n (j := 0) dX4_readProduct_22 rfl rfl ?_
      obtain ⟨v4, ev4, hf⟩ := ob hf
      refine g_getI dX4_readProduct_23 ev4 t_224 hin8 hc8 (by decide) rfl ?_
      obtain ⟨_, h7, hf⟩ := ob hf
      obtain ⟨σ5, v6, eσ5, hf⟩ := cb_el hf
      refine g_callV_i dX4_readProduct_26 (wX4_tokenAt _ eσ5) (okX4_tokenAt _ (by dsimp only [MtX4_readProduct]; omega) (by dsimp only [MtX4_readProduct]; omega)) (ckK_el h7) hc8 t_1364 t_1366 s_X4_tokenAt rfl (Nat.le_trans (cat_le _) (Nat.le_of_ble_eq_true rfl)) rfl ?_
      obtain ⟨σ8, v9, eσ8, hf⟩ := cb_el hf
      refine g_callS_i dX4_readProduct_29 (wX4_productStep _ eσ8) (okX4_productStep _ (by dsimp only [MtX4_readProduct]; omega) (by dsimp only [MtX4_readProduct]; omega)) t_1417 t_1418 rfl (Nat.le_trans (cat_le _) (Nat.le_of_ble_eq_true rfl)) rfl ?_
      refine g_if_eq (tgt := 87) dX4_readProduct_32 (by decide) (fun c10 => ?_) (fun c10 => ?_)
      · rw [if_pos c10] at hf
        refine g_iconst (v := 1) dX4_readProduct_87 (by decide) ?_
        exact g_iret dX4_readProduct_88 rfl (by decide) hX2 hX1 hf
      · rw [if_neg c10] at hf
        refine g_aload_n (j := 0) dX4_readProduct_35 rfl rfl ?_
        refine g_aload_n (j := 0) dX4_readProduct_36 rfl rfl ?_
        obtain ⟨v11, ev11, hf⟩ := ob hf
        refine g_getI dX4_readProduct_37 ev11 t_224 hin8 hc8 (by decide) rfl ?_
        obtain ⟨_, h14, hf⟩ := ob hf
        obtain ⟨σ12, v13, eσ12, hf⟩ := cb_el hf
        refine g_callV_i dX4_readProduct_40 (wX4_tokenAt _ eσ12) (okX4_tokenAt _ (by dsimp only [MtX4_readProduct]; omega) (by dsimp only [MtX4_readProduct]; omega)) (ckK_el h14) hc8 t_1364 t_1366 s_X4_tokenAt rfl (Nat.le_trans (cat_le _) (Nat.le_of_ble_eq_true rfl)) rfl ?_
        obtain ⟨σ15, v16, eσ15, hf⟩ := cb_el hf
        refine g_callS_i dX4_readProduct_43 (wX4_productStep _ eσ15) (okX4_productStep _ (by dsimp only [MtX4_readProduct]; omega) (by dsimp only [MtX4_readProduct]; omega)) t_1417 t_1418 rfl (Nat.le_trans (cat_le _) (Nat.le_of_ble_eq_true rfl)) rfl ?_
        refine g_istore_n (i := 2) (L' := [(2, .int v16), (0, rv x0), (1, .int x1)]) dX4_readProduct_46 rfl (Nat.le_of_ble_eq_true rfl) rfl ?_
        refine g_aload_n (j := 1) dX4_readProduct_47 rfl rfl ?_
        refine g_aload_n (j := 1) dX4_readProduct_48 rfl rfl ?_
        obtain ⟨v17, ev17, hf⟩ := ob hf
        refine g_getI dX4_readProduct_49 ev17 t_224 hin8 hc8 (by decide) rfl ?_
        obtain ⟨_, h20, hf⟩ := ob hf
        obtain ⟨σ18, v19, eσ18, hf⟩ := cb_el hf
        refine g_callV_i dX4_readProduct_52 (wX4_startAt _ eσ18) (okX4_startAt _ (by dsimp only [MtX4_readProduct]; omega) (by dsimp only [MtX4_readProduct]; omega)) (ckK_el h20) hc8 t_1372 t_1374 s_X4_startAt rfl (Nat.le_trans (cat_le _) (Nat.le_of_ble_eq_true rfl)) rfl ?_
        refine g_istore_n (i := 3) (L' := [(3, .int v19), (2, .int v16), (0, rv x0), (1, .int x1)]) dX4_readProduct_55 rfl (Nat.le_of_ble_eq_true rfl) rfl ?_
        refine g_aload_n (j := 2) dX4_readProduct_56 rfl rfl ?_
        refine g_dup dX4_readProduct_57 (rv_cat _) ?_
        obtain ⟨v21, ev21, hf⟩ := ob hf
        refine g_getI dX4_readProduct_58 ev21 t_224 hin8 hc8 (by decide) rfl ?_
        refine g_iconst (v := 1) dX4_readProduct_61 (by decide) ?_
        refine g_iadd dX4_readProduct_62 ?_
        obtain ⟨σ22, eσ22, hf⟩ := ob hf
        refine g_putI dX4_readProduct_63 eσ22 (Or.inl t_224) hin8 hc8 (by decide) hty8 hnm8 (Or.inl rfl) rfl rfl rfl ?_
        refine g_aload_n (j := 2) dX4_readProduct_66 rfl rfl ?_
        refine g_iload_n (j := 3) dX4_readProduct_67 rfl rfl ?_
        obtain ⟨_, h25, hf⟩ := ob hf
        obtain ⟨σ23, v24, eσ23, hf⟩ := cb_el hf
        refine g_callV_i dX4_readProduct_68 (hq_readMinus _ _ _ _ _ eσ23) (okX4_readMinus d _ (by dsimp only [MtX4_readProduct]; omega) (by dsimp only [MtX4_readProduct]; omega)) (ckK_el h25) hc8 t_1388 t_1390 s_X4_readMinus rfl (Nat.le_trans (cat_le _) (Nat.le_of_ble_eq_true rfl)) rfl ?_
        refine g_if_ne (tgt := 76) dX4_readProduct_71 (by decide) (fun c26 => ?_) (fun c26 => ?_)
        · rw [if_neg c26] at hf
          refine g_aload_n (j := 2) dX4_readProduct_76 rfl rfl ?_
          refine g_iload_n (j := 1) dX4_readProduct_77 rfl rfl ?_
          refine g_iconst (v := 0) dX4_readProduct_78 (by decide) ?_
          refine g_iload_n (j := 0) dX4_readProduct_79 rfl rfl ?_
          refine g_iconst (v := 0) dX4_readProduct_80 (by decide) ?_
          obtain ⟨_, h29, hf⟩ := ob hf
          obtain ⟨σ27, v28, eσ27, hf⟩ := cb_el hf
          refine g_callV_v dX4_readProduct_81 (wX4_emit _ eσ27) (okX4_emit _ (by dsimp only [MtX4_readProduct]; omega) (by dsimp only [MtX4_readProduct]; omega)) (ckK_el h29) hc8 t_1396 t_1398 s_X4_emit rfl (Nat.le_trans (cat_le _) (Nat.le_of_ble_eq_true rfl)) rfl ?_
          refine g_goto (tgt := 10) dX4_readProduct_84 (by decide) ?_
          refine g_sub (L' := [(0, rv x0), (1, .int x1)]) [2, 3] rfl ?_
          exact ih _ _ _ hf
        · rw [if_pos c26] at hf
          refine g_iconst (v := 0) dX4_readProduct_74 (by decide) ?_
          exact g_iret dX4_readProduct_75 rfl (by decide) hX2 hX1 hf

set_option maxRecDepth 100000 in
set_option maxHeartbeats 4000000 in
theorem wX4_readProduct (l : Launch) {d : Nat} {q_readMinus : St → Nat → Int32 → Option (St × Int32)} (hq_readMinus : ∀ (σ σf : St) (a : Nat) (z0 r : Int32), q_readMinus σ a z0 = some (σf, r) → Con (MtX4_readMinus d) yX4_readMinus l σ [rv a, .int z0] σf (some (.int r))) {σ σf : St} {x0 : Nat} {x1 : Int32} {r : Int32} (hf : fX4_readProduct q_readMinus σ x0 x1 = some (σf, r)) : Con (MtX4_readProduct (d + 1)) yX4_readProduct l σ [rv x0, .int x1] σf (some (.int r)) := by
  refine Con.of (by decide +kernel) rfl (fun h => absurd (show false = true from h) (by decide)) (by simp only [sl_n, sl_r, sl_i, sl_l]; exact Nat.le_of_ble_eq_true rfl) ?_
  rw [show lv_args 0 [rv x0, .int x1] = [(0, rv x0), (1, .int x1)] by simp only [la_n, la_r, la_i, la_l] <;> rfl]
  have hX1 : ((l, σ, σf, .inl (some (.int r))) : Xt).2.2.1 = σf := rfl
  have hX2 : ((l, σ, σf, .inl (some (.int r))) : Xt).2.2.2 = .inl (some (.int r)) := rfl
  unfold fX4_readProduct at hf
  refine g_aload_n (j := 0) dX4_readProduct_0 rfl rfl ?_
  refine g_iload_n (j := 1) dX4_readProduct_1 rfl rfl ?_
  obtain ⟨_, h3, hf⟩ := ob hf
  obtain ⟨σ1, v2, eσ1, hf⟩ := cb_el hf
  refine g_callV_i dX4_readProduct_2 (hq_readMinus _ _ _ _ _ eσ1) (okX4_readMinus d _ (by dsimp only [MtX4_readProduct]; omega) (by dsimp only [MtX4_readProduct]; omega)) (ckK_el h3) hc8 t_1388 t_1390 s_X4_readMinus rfl (Nat.le_trans (cat_le _) (Nat.le_of_ble_eq_true rfl)) rfl ?_
  refine g_if_ne (tgt := 10) dX4_readProduct_5 (by decide) (fun c4 => ?_) (fun c4 => ?_)
  · rw [if_neg c4] at hf
    exact bX4_readProduct_10 hq_readMinus hX1 hX2 FU _ _ _ hf
  · rw [if_pos c4] at hf
    refine g_iconst (v := 0) dX4_readProduct_8 (by decide) ?_
    exact g_iret dX4_readProduct_9 rfl (by decide) hX2 hX1 hf

set_option maxRecDepth 100000 in
set_option maxHeartbeats 4000000 in
theorem bX4_readMinus_106 {X : Xt} {d : Nat} {q_readOpened : St → Nat → Int32 → Option (St × Int32)} (hq_readOpened : ∀ (σ σf : St) (a : Nat) (z0 r : Int32), q_readOpened σ a z0 = some (σf, r) → Con (MtX4_readOpened d) yX4_readOpened X.1 σ [rv a, .int z0] σf (some (.int r))) {q_readPlain : St → Nat → Int32 → Option (St × Int32)} (hq_readPlain : ∀ (σ σf : St) (a : Nat) (z0 r : Int32), q_readPlain σ a z0 = some (σf, r) → Con (MtX4_readPlain d) yX4_readPlain X.1 σ [rv a, .int z0] σf (some (.int r))) {σf : St} {r : Int32} (hX1 : X.2.2.1 = σf) (hX2 : X.2.2.2 = .inl (some (.int r))) {σ : St} {x0 : Nat} {x1 : Int32} (hf : fX4_readMinus_106 q_readOpened q_readPlain σ x0 x1 = some (σf, r)) : G (MtX4_readMinus (d + 1)) X σ 106 [(0, rv x0), (1, .int x1)] [] := by
  unfold fX4_readMinus_106 at hf
  refine g_aload_n (j := 0) dX4_readMinus_106 rfl rfl ?_
  refine g_aload_n (j := 0) dX4_readMinus_107 rfl rfl ?_
  obtain ⟨v1, ev1, hf⟩ := ob hf
  refine g_getI dX4_readMinus_108 ev1 t_224 hin8 hc8 (by decide) rfl ?_
  obtain ⟨_, h4, hf⟩ := ob hf
  obtain ⟨σ2, v3, eσ2, hf⟩ := cb_el hf
  refine g_callV_i dX4_readMinus_111 (wX4_tokenAt _ eσ2) (okX4_tokenAt _ (by dsimp only [MtX4_readMinus]; omega) (by dsimp only [MtX4_readMinus]; omega)) (ckK_el h4) hc8 t_1364 t_1366 s_X4_tokenAt rfl (Nat.le_trans (cat_le _) (Nat.le_of_ble_eq_true rfl)) rfl ?_
  refine g_bipush (v := 94) dX4_readMinus_114 (by decide) ?_
  refine g_icmp_ne (tgt := 147) dX4_readMinus_116 (by decide) (fun c5 => ?_) (fun c5 => ?_)
  · rw [if_neg c5] at hf
    refine g_iconst (v := 1) dX4_readMinus_147 (by decide) ?_
    exact g_iret dX4_readMinus_148 rfl (by decide) hX2 hX1 hf
  · rw [if_pos c5] at hf
    refine g_aload_n (j := 0) dX4_readMinus_119 rfl rfl ?_
    refine g_aload_n (j := 0) dX4_readMinus_120 rfl rfl ?_
    obtain ⟨v6, ev6, hf⟩ := ob hf
    refine g_getI dX4_readMinus_121 ev6 t_224 hin8 hc8 (by decide) rfl ?_
    obtain ⟨_, h9, hf⟩ := ob hf
    obtain ⟨σ7, v8, eσ7, hf⟩ := cb_el hf
    refine g_callV_i dX4_readMinus_124 (wX4_startAt _ eσ7) (okX4_startAt _ (by dsimp only [MtX4_readMinus]; omega) (by dsimp only [MtX4_readMinus]; omega)) (ckK_el h9) hc8 t_1372 t_1374 s_X4_startAt rfl (Nat.le_trans (cat_le _) (Nat.le_of_ble_eq_true rfl)) rfl ?_
    refine g_istore_n (i := 2) (L' := [(2, .int v8), (0, rv x0), (1, .int x1)]) dX4_readMinus_127 rfl (Nat.le_of_ble_eq_true rfl) rfl ?_
    refine g_aload_n (j := 1) dX4_readMinus_128 rfl rfl ?_
    refine g_iload_n (j := 2) dX4_readMinus_129 rfl rfl ?_
    obtain ⟨_, h12, hf⟩ := ob hf
    obtain ⟨σ10, v11, eσ10, hf⟩ := cb_el hf
    refine g_callV_i dX4_readMinus_130 (hq_readOpened _ _ _ _ _ eσ10) (okX4_readOpened d _ (by dsimp only [MtX4_readMinus]; omega) (by dsimp only [MtX4_readMinus]; omega)) (ckK_el h12) hc8 t_1392 t_1394 s_X4_readOpened rfl (Nat.le_trans (cat_le _) (Nat.le_of_ble_eq_true rfl)) rfl ?_
    refine g_if_ne (tgt := 138) dX4_readMinus_133 (by decide) (fun c13 => ?_) (fun c13 => ?_)
    · rw [if_neg c13] at hf
      refine g_aload_n (j := 1) dX4_readMinus_138 rfl rfl ?_
      refine g_bipush (v := 6) dX4_readMinus_139 (by decide) ?_
      refine g_iconst (v := 0) dX4_readMinus_141 (by decide) ?_
      refine g_iload_n (j := 0) dX4_readMinus_142 rfl rfl ?_
      refine g_iconst (v := 0) dX4_readMinus_143 (by decide) ?_
      obtain ⟨_, h16, hf⟩ := ob hf
      obtain ⟨σ14, v15, eσ14, hf⟩ := cb_el hf
      refine g_callV_v dX4_readMinus_144 (wX4_emit _ eσ14) (okX4_emit _ (by dsimp only [MtX4_readMinus]; omega) (by dsimp only [MtX4_readMinus]; omega)) (ckK_el h16) hc8 t_1396 t_1398 s_X4_emit rfl (Nat.le_trans (cat_le _) (Nat.le_of_ble_eq_true rfl)) rfl ?_
      refine g_iconst (v := 1) dX4_readMinus_147 (by decide) ?_
      exact g_iret dX4_readMinus_148 rfl (by decide) hX2 hX1 hf
    · rw [if_pos c13] at hf
      refine g_iconst (v := 0) dX4_readMinus_136 (by decide) ?_
      exact g_iret dX4_readMinus_137 rfl (by decide) hX2 hX1 hf

set_option maxRecDepth 100000 in
set_option maxHeartbeats 4000000 in
theorem bX4_readMinus_53 {X : Xt} {d : Nat} {q_readOpened : St → Nat → Int32 → Option (St × Int32)} (hq_readOpened : ∀ (σ σf : St) (a : Nat) (z0 r : Int32), q_readOpened σ a z0 = some (σf, r) → Con (MtX4_readOpened d) yX4_readOpened X.1 σ [rv a, .int z0] σf (some (.int r))) {q_readPlain : St → Nat → Int32 → Option (St × Int32)} (hq_readPlain : ∀ (σ σf : St) (a : Nat) (z0 r : Int32), q_readPlain σ a z0 = some (σf, r) → Con (MtX4_readPlain d) yX4_readPlain X.1 σ [rv a, .int z0] σf (some (.int r))) {σf : St} {r : Int32} (hX1 : X.2.2.1 = σf) (hX2 : X.2.2.2 = .inl (some (.int r))) : ∀ (n : Nat) (σ : St) (x0 : Nat) (x1 : Int32), fX4_readMinus_53 q_readOpened q_readPlain n σ x0 x1 = some (σf, r) → G (MtX4_readMinus (d + 1)) X σ 53 [(0, rv x0), (1, .int x1)] [] := by
  intro n
  induction n with
  | zero => intro σ x0 x1 hf; cases hf
  | succ n ih =>
    intro σ x0 x1 hf
    rw [fX4_readMinus_53] at hf
    refine g_aload_n (j := 0) dX4_readMinus_53 rfl rfl ?_
    obtain ⟨v1, ev1, hf⟩ := ob hf
    refine g_getI dX4_readMinus_54 ev1 t_224 hin8 hc8 (by decide) rfl ?_
    refine g_aload_n (j := 0) dX4_readMinus_57 rfl rfl ?_
    obtain ⟨v2, ev2, hf⟩ := ob hf
    refine g_getI dX4_readMinus_58 ev2 t_223 hin8 hc8 (by decide) rfl ?_
    refine g_icmp_ge (tgt := 106) dX4_readMinus_61 (by decide) (fun c3 => ?_) (fun c3 => ?_)
    · rw [if_pos c3] at hf
      exact bX4_readMinus_106 hq_readOpened hq_readPlain hX1 hX2 hf
    · rw [if_neg c3] at hf
      refine g_aload_n (j := 0) dX4_readMinus_64 rfl rfl ?_
      refine g_aload_n (j := 0) dX4_readMinus_65 rfl rfl ?_
      obtain ⟨v4, ev4, hf⟩ := ob hf
      refine g_getI dX4_readMinus_66 ev4 t_224 hin8 hc8 (by decide) rfl ?_
      obtain ⟨_, h7, hf⟩ := ob hf
      obtain ⟨σ5, v6, eσ5, hf⟩ := cb_el hf
      refine g_callV_i dX4_readMinus_69 (wX4_tokenAt _ eσ5) (okX4_tokenAt _ (by dsimp only [MtX4_readMinus]; omega) (by dsimp only [MtX4_readMinus]; omega)) (ckK_el h7) hc8 t_1364 t_1366 s_X4_tokenAt rfl (Nat.le_trans (cat_le _) (Nat.le_of_ble_eq_true rfl)) rfl ?_
      refine g_bipush (v := 33) dX4_readMinus_72 (by decide) ?_
      refine g_icmp_ne (tgt := 106) dX4_readMinus_74 (by decide) (fun c8 => ?_) (fun c8 => ?_)
      · rw [if_neg c8] at hf
        exact bX4_readMinus_106 hq_readOpened hq_readPlain hX1 hX2 hf
      · rw [if_pos c8] at hf
        refine g_aload_n (j := 0) dX4_readMinus_77 rfl rfl ?_
        refine g_bipush (v := 7) dX4_readMinus_78 (by decide) ?_
        refine g_iconst (v := 0) dX4_readMinus_80 (by decide) ?_
        refine g_aload_n (j := 0) dX4_readMinus_81 rfl rfl ?_
        refine g_aload_n (j := 0) dX4_readMinus_82 rfl rfl ?_
        obtain ⟨v9, ev9, hf⟩ := ob hf
        refine g_getI dX4_readMinus_83 ev9 t_224 hin8 hc8 (by decide) rfl ?_
        obtain ⟨_, h12, hf⟩ := ob hf
        obtain ⟨σ10, v11, eσ10, hf⟩ := cb_el hf
        refine g_callV_i dX4_readMinus_86 (wX4_startAt _ eσ10) (okX4_startAt _ (by dsimp only [MtX4_readMinus]; omega) (by dsimp only [MtX4_readMinus]; omega)) (ckK_el h12) hc8 t_1372 t_1374 s_X4_startAt rfl (Nat.le_trans (cat_le _) (Nat.le_of_ble_eq_true rfl)) rfl ?_
        refine g_iconst (v := 0) dX4_readMinus_89 (by decide) ?_
        obtain ⟨_, h15, hf⟩ := ob hf
        obtain ⟨σ13, v14, eσ13, hf⟩ := cb_el hf
        refine g_callV_v dX4_readMinus_90 (wX4_emit _ eσ13) (okX4_emit _ (by dsimp only [MtX4_readMinus]; omega) (by dsimp only [MtX4_readMinus]; omega)) (ckK_el h15) hc8 t_1396 t_1398 s_X4_emit rfl (Nat.le_trans (cat_le _) (Nat.le_of_ble_eq_true rfl)) rfl ?_
        refine g_aload_n (j := 0) dX4_readMinus_93 rfl rfl ?_
        refine g_dup dX4_readMinus_94 (rv_cat _) ?_
        obtain ⟨v16, ev16, hf⟩ := ob hf
        refine g_getI dX4_readMinus_95 ev16 t_224 hin8 hc8 (by decide) rfl ?_
        refine g_iconst (v := 1) dX4_readMinus_98 (by decide) ?_
        refine g_iadd dX4_readMinus_99 ?_
        obtain ⟨σ17, eσ17, hf⟩ := ob hf
        refine g_putI dX4_readMinus_100 eσ17 (Or.inl t_224) hin8 hc8 (by decide) hty8 hnm8 (Or.inl rfl) rfl rfl rfl ?_
        refine g_goto (tgt := 53) dX4_readMinus_103 (by decide) ?_
        exact ih _ _ _ hf

set_option maxRecDepth 100000 in
set_option maxHeartbeats 4000000 in
theorem wX4_readMinus (l : Launch) {d : Nat} {q_readOpened : St → Nat → Int32 → Option (St × Int32)} (hq_readOpened : ∀ (σ σf : St) (a : Nat) (z0 r : Int32), q_readOpened σ a z0 = some (σf, r) → Con (MtX4_readOpened d) yX4_readOpened l σ [rv a, .int z0] σf (some (.int r))) {q_readPlain : St → Nat → Int32 → Option (St × Int32)} (hq_readPlain : ∀ (σ σf : St) (a : Nat) (z0 r : Int32), q_readPlain σ a z0 = some (σf, r) → Con (MtX4_readPlain d) yX4_readPlain l σ [rv a, .int z0] σf (some (.int r))) {σ σf : St} {x0 : Nat} {x1 : Int32} {r : Int32} (hf : fX4_readMinus q_readOpened q_readPlain σ x0 x1 = some (σf, r)) : Con (MtX4_readMinus (d + 1)) yX4_readMinus l σ [rv x0, .int x1] σf (some (.int r)) := by
  refine Con.of (by decide +kernel) rfl (fun h => absurd (show false = true from h) (by decide)) (by simp only [sl_n, sl_r, sl_i, sl_l]; exact Nat.le_of_ble_eq_true rfl) ?_
  rw [show lv_args 0 [rv x0, .int x1] = [(0, rv x0), (1, .int x1)] by simp only [la_n, la_r, la_i, la_l] <;> rfl]
  have hX1 : ((l, σ, σf, .inl (some (.int r))) : Xt).2.2.1 = σf := rfl
  have hX2 : ((l, σ, σf, .inl (some (.int r))) : Xt).2.2.2 = .inl (some (.int r)) := rfl
  unfold fX4_readMinus at hf
  refine g_aload_n (j := 0) dX4_readMinus_0 rfl rfl ?_
  refine g_aload_n (j := 0) dX4_readMinus_1 rfl rfl ?_
  obtain ⟨v1, ev1, hf⟩ := ob hf
  refine g_getI dX4_readMinus_2 ev1 t_224 hin8 hc8 (by decide) rfl ?_
  obtain ⟨_, h4, hf⟩ := ob hf
  obtain ⟨σ2, v3, eσ2, hf⟩ := cb_el hf
  refine g_callV_i dX4_readMinus_5 (wX4_startAt _ eσ2) (okX4_startAt _ (by dsimp only [MtX4_readMinus]; omega) (by dsimp only [MtX4_readMinus]; omega)) (ckK_el h4) hc8 t_1372 t_1374 s_X4_startAt rfl (Nat.le_trans (cat_le _) (Nat.le_of_ble_eq_true rfl)) rfl ?_
  refine g_istore_n (i := 2) (L' := [(2, .int v3), (0, rv x0), (1, .int x1)]) dX4_readMinus_8 rfl (Nat.le_of_ble_eq_true rfl) rfl ?_
  refine g_aload_n (j := 1) dX4_readMinus_9 rfl rfl ?_
  refine g_aload_n (j := 1) dX4_readMinus_10 rfl rfl ?_
  obtain ⟨v5, ev5, hf⟩ := ob hf
  refine g_getI dX4_readMinus_11 ev5 t_224 hin8 hc8 (by decide) rfl ?_
  obtain ⟨_, h8, hf⟩ := ob hf
  obtain ⟨σ6, v7, eσ6, hf⟩ := cb_el hf
  refine g_callV_i dX4_readMinus_14 (wX4_tokenAt _ eσ6) (okX4_tokenAt _ (by dsimp only [MtX4_readMinus]; omega) (by dsimp only [MtX4_readMinus]; omega)) (ckK_el h8) hc8 t_1364 t_1366 s_X4_tokenAt rfl (Nat.le_trans (cat_le _) (Nat.le_of_ble_eq_true rfl)) rfl ?_
  refine g_bipush (v := 45) dX4_readMinus_17 (by decide) ?_
  refine g_icmp_ne (tgt := 43) dX4_readMinus_19 (by decide) (fun c9 => ?_) (fun c9 => ?_)
  · rw [if_neg c9] at hf
    refine g_aload_n (j := 1) dX4_readMinus_43 rfl rfl ?_
    refine g_iload_n (j := 2) dX4_readMinus_44 rfl rfl ?_
    obtain ⟨_, h12, hf⟩ := ob hf
    obtain ⟨σ10, v11, eσ10, hf⟩ := cb_el hf
    refine g_callV_i dX4_readMinus_45 (hq_readPlain _ _ _ _ _ eσ10) (okX4_readPlain d _ (by dsimp only [MtX4_readMinus]; omega) (by dsimp only [MtX4_readMinus]; omega)) (ckK_el h12) hc8 t_1400 t_1402 s_X4_readPlain rfl (Nat.le_trans (cat_le _) (Nat.le_of_ble_eq_true rfl)) rfl ?_
    refine g_if_ne (tgt := 53) dX4_readMinus_48 (by decide) (fun c13 => ?_) (fun c13 => ?_)
    · rw [if_neg c13] at hf
      refine g_sub (L' := [(0, rv x0), (1, .int x1)]) [1, 2] rfl ?_
      exact bX4_readMinus_53 hq_readOpened hq_readPlain hX1 hX2 FU _ _ _ hf
    · rw [if_pos c13] at hf
      refine g_iconst (v := 0) dX4_readMinus_51 (by decide) ?_
      exact g_iret dX4_readMinus_52 rfl (by decide) hX2 hX1 hf
  · rw [if_pos c9] at hf
    refine g_aload_n (j := 1) dX4_readMinus_22 rfl rfl ?_
    refine g_iload_n (j := 2) dX4_readMinus_23 rfl rfl ?_
    obtain ⟨_, h16, hf⟩ := ob hf
    obtain ⟨σ14, v15, eσ14, hf⟩ := cb_el hf
    refine g_callV_i dX4_readMinus_24 (hq_readOpened _ _ _ _ _ eσ14) (okX4_readOpened d _ (by dsimp only [MtX4_readMinus]; omega) (by dsimp only [MtX4_readMinus]; omega)) (ckK_el h16) hc8 t_1392 t_1394 s_X4_readOpened rfl (Nat.le_trans (cat_le _) (Nat.le_of_ble_eq_true rfl)) rfl ?_
    refine g_if_ne (tgt := 32) dX4_readMinus_27 (by decide) (fun c17 => ?_) (fun c17 => ?_)
    · rw [if_neg c17] at hf
      refine g_aload_n (j := 1) dX4_readMinus_32 rfl rfl ?_
      refine g_bipush (v := 8) dX4_readMinus_33 (by decide) ?_
      refine g_iconst (v := 0) dX4_readMinus_35 (by decide) ?_
      refine g_iload_n (j := 0) dX4_readMinus_36 rfl rfl ?_
      refine g_iconst (v := 0) dX4_readMinus_37 (by decide) ?_
      obtain ⟨_, h20, hf⟩ := ob hf
      obtain ⟨σ18, v19, eσ18, hf⟩ := cb_el hf
      refine g_callV_v dX4_readMinus_38 (wX4_emit _ eσ18) (okX4_emit _ (by dsimp only [MtX4_readMinus]; omega) (by dsimp only [MtX4_readMinus]; omega)) (ckK_el h20) hc8 t_1396 t_1398 s_X4_emit rfl (Nat.le_trans (cat_le _) (Nat.le_of_ble_eq_true rfl)) rfl ?_
      refine g_iconst (v := 1) dX4_readMinus_41 (by decide) ?_
      exact g_iret dX4_readMinus_42 rfl (by decide) hX2 hX1 hf
    · rw [if_pos c17] at hf
      refine g_iconst (v := 0) dX4_readMinus_30 (by decide) ?_
      exact g_iret dX4_readMinus_31 rfl (by decide) hX2 hX1 hf

set_option maxRecDepth 100000 in
set_option maxHeartbeats 4000000 in
theorem wX4_readOpened (l : Launch) {d : Nat} {q_readMinus : St → Nat → Int32 → Option (St × Int32)} (hq_readMinus : ∀ (σ σf : St) (a : Nat) (z0 r : Int32), q_readMinus σ a z0 = some (σf, r) → Con (MtX4_readMinus d) yX4_readMinus l σ [rv a, .int z0] σf (some (.int r))) {σ σf : St} {x0 : Nat} {x1 : Int32} {r : Int32} (hf : fX4_readOpened q_readMinus σ x0 x1 = some (σf, r)) : Con (MtX4_readOpened (d + 1)) yX4_readOpened l σ [rv x0, .int x1] σf (some (.int r)) := by
  refine Con.of (by decide +kernel) rfl (fun h => absurd (show false = true from h) (by decide)) (by simp only [sl_n, sl_r, sl_i, sl_l]; exact Nat.le_of_ble_eq_true rfl) ?_
  rw [show lv_args 0 [rv x0, .int x1] = [(0, rv x0), (1, .int x1)] by simp only [la_n, la_r, la_i, la_l] <;> rfl]
  have hX1 : ((l, σ, σf, .inl (some (.int r))) : Xt).2.2.1 = σf := rfl
  have hX2 : ((l, σ, σf, .inl (some (.int r))) : Xt).2.2.2 = .inl (some (.int r)) := rfl
  unfold fX4_readOpened at hf
  refine g_iload_n (j := 1) dX4_readOpened_0 rfl rfl ?_
  refine g_bipush (v := 12) dX4_readOpened_1 (by decide) ?_
  refine g_icmp_lt (tgt := 8) dX4_readOpened_3 (by decide) (fun c1 => ?_) (fun c1 => ?_)
  · rw [if_pos c1] at hf
    refine g_aload_n (j := 0) dX4_readOpened_8 rfl rfl ?_
    refine g_dup dX4_readOpened_9 (rv_cat _) ?_
    obtain ⟨v2, ev2, hf⟩ := ob hf
    refine g_getI dX4_readOpened_10 ev2 t_224 hin8 hc8 (by decide) rfl ?_
    refine g_iconst (v := 1) dX4_readOpened_13 (by decide) ?_
    refine g_iadd dX4_readOpened_14 ?_
    obtain ⟨σ3, eσ3, hf⟩ := ob hf
    refine g_putI dX4_readOpened_15 eσ3 (Or.inl t_224) hin8 hc8 (by decide) hty8 hnm8 (Or.inl rfl) rfl rfl rfl ?_
    refine g_aload_n (j := 0) dX4_readOpened_18 rfl rfl ?_
    refine g_iload_n (j := 1) dX4_readOpened_19 rfl rfl ?_
    refine g_iconst (v := 1) dX4_readOpened_20 (by decide) ?_
    refine g_iadd dX4_readOpened_21 ?_
    obtain ⟨_, h6, hf⟩ := ob hf
    obtain ⟨σ4, v5, eσ4, hf⟩ := cb_el hf
    refine g_callV_i dX4_readOpened_22 (hq_readMinus _ _ _ _ _ eσ4) (okX4_readMinus d _ (by dsimp only [MtX4_readOpened]; omega) (by dsimp only [MtX4_readOpened]; omega)) (ckK_el h6) hc8 t_1388 t_1390 s_X4_readMinus rfl (Nat.le_trans (cat_le _) (Nat.le_of_ble_eq_true rfl)) rfl ?_
    obtain ⟨_, h7, hf⟩ := ob hf
    exact g_iret dX4_readOpened_25 rfl (ckZ_el h7) hX2 hX1 hf
  · rw [if_neg c1] at hf
    refine g_iconst (v := 0) dX4_readOpened_6 (by decide) ?_
    exact g_iret dX4_readOpened_7 rfl (by decide) hX2 hX1 hf

set_option maxRecDepth 100000 in
set_option maxHeartbeats 4000000 in
theorem wX4_readPlain (l : Launch) {d : Nat} {q_readCall : St → Nat → Int32 → Int32 → Int32 → Option (St × Int32)} (hq_readCall : ∀ (σ σf : St) (a : Nat) (z0 z1 z2 r : Int32), q_readCall σ a z0 z1 z2 = some (σf, r) → Con (MtX4_readCall d) yX4_readCall l σ [rv a, .int z0, .int z1, .int z2] σf (some (.int r))) {q_readSum : St → Nat → Int32 → Option (St × Int32)} (hq_readSum : ∀ (σ σf : St) (a : Nat) (z0 r : Int32), q_readSum σ a z0 = some (σf, r) → Con (MtX4_readSum d) yX4_readSum l σ [rv a, .int z0] σf (some (.int r))) {σ σf : St} {x0 : Nat} {x1 : Int32} {r : Int32} (hf : fX4_readPlain q_readCall q_readSum σ x0 x1 = some (σf, r)) : Con (MtX4_readPlain (d + 1)) yX4_readPlain l σ [rv x0, .int x1] σf (some (.int r)) := by
  refine Con.of (by decide +kernel) rfl (fun h => absurd (show false = true from h) (by decide)) (by simp only [sl_n, sl_r, sl_i, sl_l]; exact Nat.le_of_ble_eq_true rfl) ?_
  rw [show lv_args 0 [rv x0, .int x1] = [(0, rv x0), (1, .int x1)] by simp only [la_n, la_r, la_i, la_l] <;> rfl]
  have hX1 : ((l, σ, σf, .inl (some (.int r))) : Xt).2.2.1 = σf := rfl
  have hX2 : ((l, σ, σf, .inl (some (.int r))) : Xt).2.2.2 = .inl (some (.int r)) := rfl
  unfold fX4_readPlain at hf
  refine g_aload_n (j := 0) dX4_readPlain_0 rfl rfl ?_
  refine g_aload_n (j := 0) dX4_readPlain_1 rfl rfl ?_
  obtain ⟨v1, ev1, hf⟩ := ob hf
  refine g_getI dX4_readPlain_2 ev1 t_224 hin8 hc8 (by decide) rfl ?_
  obtain ⟨_, h4, hf⟩ := ob hf
  obtain ⟨σ2, v3, eσ2, hf⟩ := cb_el hf
  refine g_callV_i dX4_readPlain_5 (wX4_startAt _ eσ2) (okX4_startAt _ (by dsimp only [MtX4_readPlain]; omega) (by dsimp only [MtX4_readPlain]; omega)) (ckK_el h4) hc8 t_1372 t_1374 s_X4_startAt rfl (Nat.le_trans (cat_le _) (Nat.le_of_ble_eq_true rfl)) rfl ?_
  refine g_istore_n (i := 2) (L' := [(2, .int v3), (0, rv x0), (1, .int x1)]) dX4_readPlain_8 rfl (Nat.le_of_ble_eq_true rfl) rfl ?_
  refine g_aload_n (j := 1) dX4_readPlain_9 rfl rfl ?_
  refine g_aload_n (j := 1) dX4_readPlain_10 rfl rfl ?_
  obtain ⟨v5, ev5, hf⟩ := ob hf
  refine g_getI dX4_readPlain_11 ev5 t_224 hin8 hc8 (by decide) rfl ?_
  obtain ⟨_, h8, hf⟩ := ob hf
  obtain ⟨σ6, v7, eσ6, hf⟩ := cb_el hf
  refine g_callV_i dX4_readPlain_14 (wX4_tokenAt _ eσ6) (okX4_tokenAt _ (by dsimp only [MtX4_readPlain]; omega) (by dsimp only [MtX4_readPlain]; omega)) (ckK_el h8) hc8 t_1364 t_1366 s_X4_tokenAt rfl (Nat.le_trans (cat_le _) (Nat.le_of_ble_eq_true rfl)) rfl ?_
  refine g_iconst (v := 2) dX4_readPlain_17 (by decide) ?_
  refine g_icmp_ne (tgt := 55) dX4_readPlain_18 (by decide) (fun c9 => ?_) (fun c9 => ?_)
  · rw [if_neg c9] at hf
    refine g_aload_n (j := 1) dX4_readPlain_55 rfl rfl ?_
    refine g_aload_n (j := 1) dX4_readPlain_56 rfl rfl ?_
    obtain ⟨v10, ev10, hf⟩ := ob hf
    refine g_getI dX4_readPlain_57 ev10 t_224 hin8 hc8 (by decide) rfl ?_
    obtain ⟨_, h13, hf⟩ := ob hf
    obtain ⟨σ11, v12, eσ11, hf⟩ := cb_el hf
    refine g_callV_i dX4_readPlain_60 (wX4_tokenAt _ eσ11) (okX4_tokenAt _ (by dsimp only [MtX4_readPlain]; omega) (by dsimp only [MtX4_readPlain]; omega)) (ckK_el h13) hc8 t_1364 t_1366 s_X4_tokenAt rfl (Nat.le_trans (cat_le _) (Nat.le_of_ble_eq_true rfl)) rfl ?_
    refine g_iconst (v := 1) dX4_readPlain_63 (by decide) ?_
    refine g_icmp_ne (tgt := 116) dX4_readPlain_64 (by decide) (fun c14 => ?_) (fun c14 => ?_)
    · rw [if_neg c14] at hf
      refine g_aload_n (j := 1) dX4_readPlain_116 rfl rfl ?_
      refine g_aload_n (j := 1) dX4_readPlain_117 rfl rfl ?_
      obtain ⟨v15, ev15, hf⟩ := ob hf
      refine g_getI dX4_readPlain_118 ev15 t_224 hin8 hc8 (by decide) rfl ?_
      obtain ⟨_, h18, hf⟩ := ob hf
      obtain ⟨σ16, v17, eσ16, hf⟩ := cb_el hf
      refine g_callV_i dX4_readPlain_121 (wX4_tokenAt _ eσ16) (okX4_tokenAt _ (by dsimp only [MtX4_readPlain]; omega) (by dsimp only [MtX4_readPlain]; omega)) (ckK_el h18) hc8 t_1364 t_1366 s_X4_tokenAt rfl (Nat.le_trans (cat_le _) (Nat.le_of_ble_eq_true rfl)) rfl ?_
      refine g_bipush (v := 40) dX4_readPlain_124 (by decide) ?_
      refine g_icmp_ne (tgt := 135) dX4_readPlain_126 (by decide) (fun c19 => ?_) (fun c19 => ?_)
      · rw [if_neg c19] at hf
        refine g_iconst (v := 0) dX4_readPlain_135 (by decide) ?_
        exact g_iret dX4_readPlain_136 rfl (by decide) hX2 hX1 hf
      · rw [if_pos c19] at hf
        refine g_iload_n (j := 2) dX4_readPlain_129 rfl rfl ?_
        refine g_bipush (v := 12) dX4_readPlain_130 (by decide) ?_
        refine g_icmp_lt (tgt := 137) dX4_readPlain_132 (by decide) (fun c20 => ?_) (fun c20 => ?_)
        · rw [if_pos c20] at hf
          refine g_aload_n (j := 1) dX4_readPlain_137 rfl rfl ?_
          refine g_dup dX4_readPlain_138 (rv_cat _) ?_
          obtain ⟨v21, ev21, hf⟩ := ob hf
          refine g_getI dX4_readPlain_139 ev21 t_224 hin8 hc8 (by decide) rfl ?_
          refine g_iconst (v := 1) dX4_readPlain_142 (by decide) ?_
          refine g_iadd dX4_readPlain_143 ?_
          obtain ⟨σ22, eσ22, hf⟩ := ob hf
          refine g_putI dX4_readPlain_144 eσ22 (Or.inl t_224) hin8 hc8 (by decide) hty8 hnm8 (Or.inl rfl) rfl rfl rfl ?_
          refine g_aload_n (j := 1) dX4_readPlain_147 rfl rfl ?_
          refine g_iload_n (j := 2) dX4_readPlain_148 rfl rfl ?_
          refine g_iconst (v := 1) dX4_readPlain_149 (by decide) ?_
          refine g_iadd dX4_readPlain_150 ?_
          obtain ⟨_, h25, hf⟩ := ob hf
          obtain ⟨σ23, v24, eσ23, hf⟩ := cb_el hf
          refine g_callV_i dX4_readPlain_151 (hq_readSum _ _ _ _ _ eσ23) (okX4_readSum d _ (by dsimp only [MtX4_readPlain]; omega) (by dsimp only [MtX4_readPlain]; omega)) (ckK_el h25) hc8 t_1380 t_1382 s_X4_readSum rfl (Nat.le_trans (cat_le _) (Nat.le_of_ble_eq_true rfl)) rfl ?_
          refine g_if_eq (tgt := 170) dX4_readPlain_154 (by decide) (fun c26 => ?_) (fun c26 => ?_)
          · rw [if_pos c26] at hf
            refine g_iconst (v := 0) dX4_readPlain_170 (by decide) ?_
            exact g_iret dX4_readPlain_171 rfl (by decide) hX2 hX1 hf
          · rw [if_neg c26] at hf
            refine g_aload_n (j := 1) dX4_readPlain_157 rfl rfl ?_
            refine g_aload_n (j := 1) dX4_readPlain_158 rfl rfl ?_
            obtain ⟨v27, ev27, hf⟩ := ob hf
            refine g_getI dX4_readPlain_159 ev27 t_224 hin8 hc8 (by decide) rfl ?_
            obtain ⟨_, h30, hf⟩ := ob hf
            obtain ⟨σ28, v29, eσ28, hf⟩ := cb_el hf
            refine g_callV_i dX4_readPlain_162 (wX4_tokenAt _ eσ28) (okX4_tokenAt _ (by dsimp only [MtX4_readPlain]; omega) (by dsimp only [MtX4_readPlain]; omega)) (ckK_el h30) hc8 t_1364 t_1366 s_X4_tokenAt rfl (Nat.le_trans (cat_le _) (Nat.le_of_ble_eq_true rfl)) rfl ?_
            refine g_bipush (v := 41) dX4_readPlain_165 (by decide) ?_
            refine g_icmp_eq (tgt := 172) dX4_readPlain_167 (by decide) (fun c31 => ?_) (fun c31 => ?_)
            · rw [if_pos c31] at hf
              refine g_aload_n (j := 1) dX4_readPlain_172 rfl rfl ?_
              refine g_dup dX4_readPlain_173 (rv_cat _) ?_
              obtain ⟨v32, ev32, hf⟩ := ob hf
              refine g_getI dX4_readPlain_174 ev32 t_224 hin8 hc8 (by decide) rfl ?_
              refine g_iconst (v := 1) dX4_readPlain_177 (by decide) ?_
              refine g_iadd dX4_readPlain_178 ?_
              obtain ⟨σ33, eσ33, hf⟩ := ob hf
              refine g_putI dX4_readPlain_179 eσ33 (Or.inl t_224) hin8 hc8 (by decide) hty8 hnm8 (Or.inl rfl) rfl rfl rfl ?_
              refine g_iconst (v := 1) dX4_readPlain_182 (by decide) ?_
              exact g_iret dX4_readPlain_183 rfl (by decide) hX2 hX1 hf
            · rw [if_neg c31] at hf
              refine g_iconst (v := 0) dX4_readPlain_170 (by decide) ?_
              exact g_iret dX4_readPlain_171 rfl (by decide) hX2 hX1 hf
        · rw [if_neg c20] at hf
          refine g_iconst (v := 0) dX4_readPlain_135 (by decide) ?_
          exact g_iret dX4_readPlain_136 rfl (by decide) hX2 hX1 hf
    · rw [if_pos c14] at hf
      refine g_aload_n (j := 1) dX4_readPlain_67 rfl rfl ?_
      refine g_aload_n (j := 1) dX4_readPlain_68 rfl rfl ?_
      obtain ⟨v34, ev34, hf⟩ := ob hf
      refine g_getI dX4_readPlain_69 ev34 t_224 hin8 hc8 (by decide) rfl ?_
      obtain ⟨_, h37, hf⟩ := ob hf
      obtain ⟨σ35, v36, eσ35, hf⟩ := cb_el hf
      refine g_callV_i dX4_readPlain_72 (wX4_wordAt _ eσ35) (okX4_wordAt _ (by dsimp only [MtX4_readPlain]; omega) (by dsimp only [MtX4_readPlain]; omega)) (ckK_el h37) hc8 t_1368 t_1370 s_X4_wordAt rfl (Nat.le_trans (cat_le _) (Nat.le_of_ble_eq_true rfl)) rfl ?_
      refine g_istore_n (i := 3) (L' := [(3, .int v36), (2, .int v3), (0, rv x0), (1, .int x1)]) dX4_readPlain_75 rfl (Nat.le_of_ble_eq_true rfl) rfl ?_
      refine g_aload_n (j := 2) dX4_readPlain_76 rfl rfl ?_
      refine g_dup dX4_readPlain_77 (rv_cat _) ?_
      obtain ⟨v38, ev38, hf⟩ := ob hf
      refine g_getI dX4_readPlain_78 ev38 t_224 hin8 hc8 (by decide) rfl ?_
      refine g_iconst (v := 1) dX4_readPlain_81 (by decide) ?_
      refine g_iadd dX4_readPlain_82 ?_
      obtain ⟨σ39, eσ39, hf⟩ := ob hf
      refine g_putI dX4_readPlain_83 eσ39 (Or.inl t_224) hin8 hc8 (by decide) hty8 hnm8 (Or.inl rfl) rfl rfl rfl ?_
      refine g_aload_n (j := 2) dX4_readPlain_86 rfl rfl ?_
      refine g_aload_n (j := 2) dX4_readPlain_87 rfl rfl ?_
      obtain ⟨v40, ev40, hf⟩ := ob hf
      refine g_getI dX4_readPlain_88 ev40 t_224 hin8 hc8 (by decide) rfl ?_
      obtain ⟨_, h43, hf⟩ := ob hf
      obtain ⟨σ41, v42, eσ41, hf⟩ := cb_el hf
      refine g_callV_i dX4_readPlain_91 (wX4_tokenAt _ eσ41) (okX4_tokenAt _ (by dsimp only [MtX4_readPlain]; omega) (by dsimp only [MtX4_readPlain]; omega)) (ckK_el h43) hc8 t_1364 t_1366 s_X4_tokenAt rfl (Nat.le_trans (cat_le _) (Nat.le_of_ble_eq_true rfl)) rfl ?_
      refine g_bipush (v := 40) dX4_readPlain_94 (by decide) ?_
      refine g_icmp_ne (tgt := 109) dX4_readPlain_96 (by decide) (fun c44 => ?_) (fun c44 => ?_)
      · rw [if_neg c44] at hf
        refine g_aload_n (j := 2) dX4_readPlain_109 rfl rfl ?_
        refine g_iload_n (j := 0) dX4_readPlain_110 rfl rfl ?_
        refine g_iload_n (j := 1) dX4_readPlain_111 rfl rfl ?_
        obtain ⟨_, h47, hf⟩ := ob hf
        obtain ⟨σ45, v46, eσ45, hf⟩ := cb_el hf
        refine g_callV_i dX4_readPlain_112 (wX4_readWord _ eσ45) (okX4_readWord _ (by dsimp only [MtX4_readPlain]; omega) (by dsimp only [MtX4_readPlain]; omega)) (ckK_el h47) hc8 t_1413 t_1415 s_X4_readWord rfl (Nat.le_trans (cat_le _) (Nat.le_of_ble_eq_true rfl)) rfl ?_
        obtain ⟨_, h48, hf⟩ := ob hf
        exact g_iret dX4_readPlain_115 rfl (ckZ_el h48) hX2 hX1 hf
      · rw [if_pos c44] at hf
        refine g_aload_n (j := 2) dX4_readPlain_99 rfl rfl ?_
        refine g_iload_n (j := 0) dX4_readPlain_100 rfl rfl ?_
        refine g_iload_n (j := 1) dX4_readPlain_101 rfl rfl ?_
        refine g_iload_n (j := 3) dX4_readPlain_102 rfl rfl ?_
        obtain ⟨_, h51, hf⟩ := ob hf
        obtain ⟨σ49, v50, eσ49, hf⟩ := cb_el hf
        refine g_callV_i dX4_readPlain_103 (hq_readCall _ _ _ _ _ _ _ eσ49) (okX4_readCall d _ (by dsimp only [MtX4_readPlain]; omega) (by dsimp only [MtX4_readPlain]; omega)) (ckK_el h51) hc8 t_1404 t_1406 s_X4_readCall rfl (Nat.le_trans (cat_le _) (Nat.le_of_ble_eq_true rfl)) rfl ?_
        refine g_goto (tgt := 115) dX4_readPlain_106 (by decide) ?_
        obtain ⟨_, h52, hf⟩ := ob hf
        exact g_iret dX4_readPlain_115 rfl (ckZ_el h52) hX2 hX1 hf
  · rw [if_pos c9] at hf
    refine g_aload_n (j := 1) dX4_readPlain_21 rfl rfl ?_
    refine g_bipush (v := 21) dX4_readPlain_22 (by decide) ?_
    refine g_aload_n (j := 1) dX4_readPlain_24 rfl rfl ?_
    obtain ⟨v53, ev53, hf⟩ := ob hf
    refine g_getI dX4_readPlain_25 ev53 t_230 hin8 hc8 (by decide) rfl ?_
    refine g_iload_n (j := 0) dX4_readPlain_28 rfl rfl ?_
    refine g_iconst (v := 0) dX4_readPlain_29 (by decide) ?_
    obtain ⟨_, h56, hf⟩ := ob hf
    obtain ⟨σ54, v55, eσ54, hf⟩ := cb_el hf
    refine g_callV_v dX4_readPlain_30 (wX4_emit _ eσ54) (okX4_emit _ (by dsimp only [MtX4_readPlain]; omega) (by dsimp only [MtX4_readPlain]; omega)) (ckK_el h56) hc8 t_1396 t_1398 s_X4_emit rfl (Nat.le_trans (cat_le _) (Nat.le_of_ble_eq_true rfl)) rfl ?_
    refine g_aload_n (j := 1) dX4_readPlain_33 rfl rfl ?_
    refine g_dup dX4_readPlain_34 (rv_cat _) ?_
    obtain ⟨v57, ev57, hf⟩ := ob hf
    refine g_getI dX4_readPlain_35 ev57 t_230 hin8 hc8 (by decide) rfl ?_
    refine g_iconst (v := 1) dX4_readPlain_38 (by decide) ?_
    refine g_iadd dX4_readPlain_39 ?_
    obtain ⟨σ58, eσ58, hf⟩ := ob hf
    refine g_putI dX4_readPlain_40 eσ58 (Or.inl t_230) hin8 hc8 (by decide) hty8 hnm8 (Or.inl rfl) rfl rfl rfl ?_
    refine g_aload_n (j := 1) dX4_readPlain_43 rfl rfl ?_
    refine g_dup dX4_readPlain_44 (rv_cat _) ?_
    obtain ⟨v59, ev59, hf⟩ := ob hf
    refine g_getI dX4_readPlain_45 ev59 t_224 hin8 hc8 (by decide) rfl ?_
    refine g_iconst (v := 1) dX4_readPlain_48 (by decide) ?_
    refine g_iadd dX4_readPlain_49 ?_
    obtain ⟨σ60, eσ60, hf⟩ := ob hf
    refine g_putI dX4_readPlain_50 eσ60 (Or.inl t_224) hin8 hc8 (by decide) hty8 hnm8 (Or.inl rfl) rfl rfl rfl ?_
    refine g_iconst (v := 1) dX4_readPlain_53 (by decide) ?_
    exact g_iret dX4_readPlain_54 rfl (by decide) hX2 hX1 hf

set_option maxRecDepth 100000 in
set_option maxHeartbeats 4000000 in
theorem bX4_readCall_73 {X : Xt} {d : Nat} {q_readSum : St → Nat → Int32 → Option (St × Int32)} (hq_readSum : ∀ (σ σf : St) (a : Nat) (z0 r : Int32), q_readSum σ a z0 = some (σf, r) → Con (MtX4_readSum d) yX4_readSum X.1 σ [rv a, .int z0] σf (some (.int r))) {σf : St} {r : Int32} (hX1 : X.2.2.1 = σf) (hX2 : X.2.2.2 = .inl (some (.int r))) {k14 : St → Nat → Int32 → Int32 → Int32 → Int32 → Int32 → Option (St × Int32)} (hk14 : ∀ (σ : St) (x0 : Nat) (x1 : Int32) (x2 : Int32) (x3 : Int32) (x4 : Int32) (x5 : Int32), k14 σ x0 x1 x2 x3 x4 x5 = some (σf, r) → G (MtX4_readCall (d + 1)) X σ 14 [(0, rv x0), (1, .int x1), (2, .int x2), (3, .int x3), (4, .int x4), (5, .int x5)] []) {σ : St} {x0 : Nat} {x1 : Int32} {x2 : Int32} {x3 : Int32} {x4 : Int32} {y0 : Int32} (hf : fX4_readCall_73 q_readSum k14 σ x0 x1 x2 x3 x4 y0 = some (σf, r)) : G (MtX4_readCall (d + 1)) X σ 73 [(0, rv x0), (1, .int x1), (2, .int x2), (3, .int x3), (4, .int x4)] [.int y0] := by
  unfold fX4_readCall_73 at hf
  refine g_istore (i := 5) (L' := [(5, .int y0), (0, rv x0), (1, .int x1), (2, .int x2), (3, .int x3), (4, .int x4)]) dX4_readCall_73 (Nat.le_of_ble_eq_true rfl) rfl ?_
  refine g_goto (tgt := 14) dX4_readCall_75 (by decide) ?_
  refine g_sub (L' := [(0, rv x0), (1, .int x1), (2, .int x2), (3, .int x3), (4, .int x4), (5, .int y0)]) [1, 2, 3, 4, 5, 0] rfl ?_
  exact hk14 _ _ _ _ _ _ _ hf

set_option maxRecDepth 100000 in
set_option maxHeartbeats 4000000 in
theorem bX4_readCall_122 {X : Xt} {d : Nat} {q_readSum : St → Nat → Int32 → Option (St × Int32)} (hq_readSum : ∀ (σ σf : St) (a : Nat) (z0 r : Int32), q_readSum σ a z0 = some (σf, r) → Con (MtX4_readSum d) yX4_readSum X.1 σ [rv a, .int z0] σf (some (.int r))) {σf : St} {r : Int32} (hX1 : X.2.2.1 = σf) (hX2 : X.2.2.2 = .inl (some (.int r))) {σ : St} {x1 : Int32} {x2 : Int32} {x4 : Int32} {y0 : Nat} {y1 : Int32} (hf : fX4_readCall_122 q_readSum σ x1 x2 x4 y0 y1 = some (σf, r)) : G (MtX4_readCall (d + 1)) X σ 122 [(1, .int x1), (2, .int x2), (4, .int x4)] [.int y1, rv y0] := by
  unfold fX4_readCall_122 at hf
  refine g_iload_n (j := 0) dX4_readCall_122 rfl rfl ?_
  refine g_iload_n (j := 1) dX4_readCall_123 rfl rfl ?_
  refine g_iload (j := 2) dX4_readCall_124 rfl ?_
  obtain ⟨_, h3, hf⟩ := ob hf
  obtain ⟨σ1, v2, eσ1, hf⟩ := cb_el hf
  refine g_callV_v dX4_readCall_126 (wX4_emit _ eσ1) (okX4_emit _ (by dsimp only [MtX4_readCall]; omega) (by dsimp only [MtX4_readCall]; omega)) (ckK_el h3) hc8 t_1396 t_1398 s_X4_emit rfl (Nat.le_trans (cat_le _) (Nat.le_of_ble_eq_true rfl)) rfl ?_
  refine g_iconst (v := 1) dX4_readCall_129 (by decide) ?_
  exact g_iret dX4_readCall_130 rfl (by decide) hX2 hX1 hf

set_option maxRecDepth 100000 in
set_option maxHeartbeats 4000000 in
theorem bX4_readCall_78 {X : Xt} {d : Nat} {q_readSum : St → Nat → Int32 → Option (St × Int32)} (hq_readSum : ∀ (σ σf : St) (a : Nat) (z0 r : Int32), q_readSum σ a z0 = some (σf, r) → Con (MtX4_readSum d) yX4_readSum X.1 σ [rv a, .int z0] σf (some (.int r))) {σf : St} {r : Int32} (hX1 : X.2.2.1 = σf) (hX2 : X.2.2.2 = .inl (some (.int r))) {σ : St} {x0 : Nat} {x1 : Int32} {x2 : Int32} {x4 : Int32} (hf : fX4_readCall_78 q_readSum σ x0 x1 x2 x4 = some (σf, r)) : G (MtX4_readCall (d + 1)) X σ 78 [(0, rv x0), (1, .int x1), (2, .int x2), (4, .int x4)] [] := by
  unfold fX4_readCall_78 at hf
  refine g_aload_n (j := 0) dX4_readCall_78 rfl rfl ?_
  refine g_aload_n (j := 0) dX4_readCall_79 rfl rfl ?_
  obtain ⟨v1, ev1, hf⟩ := ob hf
  refine g_getI dX4_readCall_80 ev1 t_224 hin8 hc8 (by decide) rfl ?_
  obtain ⟨_, h4, hf⟩ := ob hf
  obtain ⟨σ2, v3, eσ2, hf⟩ := cb_el hf
  refine g_callV_i dX4_readCall_83 (wX4_tokenAt _ eσ2) (okX4_tokenAt _ (by dsimp only [MtX4_readCall]; omega) (by dsimp only [MtX4_readCall]; omega)) (ckK_el h4) hc8 t_1364 t_1366 s_X4_tokenAt rfl (Nat.le_trans (cat_le _) (Nat.le_of_ble_eq_true rfl)) rfl ?_
  refine g_bipush (v := 41) dX4_readCall_86 (by decide) ?_
  refine g_icmp_eq (tgt := 93) dX4_readCall_88 (by decide) (fun c5 => ?_) (fun c5 => ?_)
  · rw [if_pos c5] at hf
    refine g_aload_n (j := 0) dX4_readCall_93 rfl rfl ?_
    refine g_dup dX4_readCall_94 (rv_cat _) ?_
    obtain ⟨v6, ev6, hf⟩ := ob hf
    refine g_getI dX4_readCall_95 ev6 t_224 hin8 hc8 (by decide) rfl ?_
    refine g_iconst (v := 1) dX4_readCall_98 (by decide) ?_
    refine g_iadd dX4_readCall_99 ?_
    obtain ⟨σ7, eσ7, hf⟩ := ob hf
    refine g_putI dX4_readCall_100 eσ7 (Or.inl t_224) hin8 hc8 (by decide) hty8 hnm8 (Or.inl rfl) rfl rfl rfl ?_
    refine g_iload_n (j := 1) dX4_readCall_103 rfl rfl ?_
    obtain ⟨σ8, v9, eσ8, hf⟩ := cb_el hf
    refine g_callSN_i dX4_readCall_104 (wX11_stepOf _ eσ8) (okX11_stepOf _ (by dsimp only [MtX4_readCall]; omega) (by dsimp only [MtX4_readCall]; omega)) t_1408 t_1409 rfl (Nat.le_trans (cat_le _) (Nat.le_of_ble_eq_true rfl)) rfl ?_
    refine g_istore (i := 6) (L' := [(6, .int v9), (0, rv x0), (1, .int x1), (2, .int x2), (4, .int x4)]) dX4_readCall_107 (Nat.le_of_ble_eq_true rfl) rfl ?_
    refine g_aload_n (j := 1) dX4_readCall_109 rfl rfl ?_
    refine g_iload (j := 0) dX4_readCall_110 rfl ?_
    refine g_if_ne (tgt := 120) dX4_readCall_112 (by decide) (fun c10 => ?_) (fun c10 => ?_)
    · rw [if_neg c10] at hf
      refine g_iload (j := 0) dX4_readCall_120 rfl ?_
      refine g_sub (L' := [(1, .int x1), (2, .int x2), (4, .int x4)]) [2, 3, 4] rfl ?_
      exact bX4_readCall_122 hq_readSum hX1 hX2 hf
    · rw [if_pos c10] at hf
      refine g_bipush (v := 9) dX4_readCall_115 (by decide) ?_
      refine g_goto (tgt := 122) dX4_readCall_117 (by decide) ?_
      refine g_sub (L' := [(1, .int x1), (2, .int x2), (4, .int x4)]) [2, 3, 4] rfl ?_
      exact bX4_readCall_122 hq_readSum hX1 hX2 hf
  · rw [if_neg c5] at hf
    refine g_iconst (v := 0) dX4_readCall_91 (by decide) ?_
    exact g_iret dX4_readCall_92 rfl (by decide) hX2 hX1 hf

set_option maxRecDepth 100000 in
set_option maxHeartbeats 4000000 in
theorem bX4_readCall_14 {X : Xt} {d : Nat} {q_readSum : St → Nat → Int32 → Option (St × Int32)} (hq_readSum : ∀ (σ σf : St) (a : Nat) (z0 r : Int32), q_readSum σ a z0 = some (σf, r) → Con (MtX4_readSum d) yX4_readSum X.1 σ [rv a, .int z0] σf (some (.int r))) {σf : St} {r : Int32} (hX1 : X.2.2.1 = σf) (hX2 : X.2.2.2 = .inl (some (.int r))) : ∀ (n : Nat) (σ : St) (x0 : Nat) (x1 : Int32) (x2 : Int32) (x3 : Int32) (x4 : Int32) (x5 : Int32), fX4_readCall_14 q_readSum n σ x0 x1 x2 x3 x4 x5 = some (σf, r) → G (MtX4_readCall (d + 1)) X σ 14 [(0, rv x0), (1, .int x1), (2, .int x2), (3, .int x3), (4, .int x4), (5, .int x5)] [] := by
  intro n
  induction n with
  | zero => intro σ x0 x1 x2 x3 x4 x5 hf; cases hf
  | succ n ih =>
    intro σ x0 x1 x2 x3 x4 x5 hf
    rw [fX4_readCall_14] at hf
    refine g_iload (j := 5) dX4_readCall_14 rfl ?_
    refine g_if_eq (tgt := 78) dX4_readCall_16 (by decide) (fun c1 => ?_) (fun c1 => ?_)
    · rw [if_pos c1] at hf
      refine g_sub (L' := [(0, rv x0), (1, .int x1), (2, .int x2), (4, .int x4)]) [0, 1, 2, 4] rfl ?_
      exact bX4_readCall_78 hq_readSum hX1 hX2 hf
    · rw [if_neg c1] at hf
      refine g_aload_n (j := 0) dX4_readCall_19 rfl rfl ?_
      obtain ⟨v2, ev2, hf⟩ := ob hf
      refine g_getI dX4_readCall_20 ev2 t_224 hin8 hc8 (by decide) rfl ?_
      refine g_aload_n (j := 0) dX4_readCall_23 rfl rfl ?_
      obtain ⟨v3, ev3, hf⟩ := ob hf
      refine g_getI dX4_readCall_24 ev3 t_223 hin8 hc8 (by decide) rfl ?_
      refine g_icmp_ge (tgt := 78) dX4_readCall_27 (by decide) (fun c4 => ?_) (fun c4 => ?_)
      · rw [if_pos c4] at hf
        refine g_sub (L' := [(0, rv x0), (1, .int x1), (2, .int x2), (4, .int x4)]) [0, 1, 2, 4] rfl ?_
        exact bX4_readCall_78 hq_readSum hX1 hX2 hf
      · rw [if_neg c4] at hf
        refine g_aload_n (j := 0) dX4_readCall_30 rfl rfl ?_
        refine g_dup dX4_readCall_31 (rv_cat _) ?_
        obtain ⟨v5, ev5, hf⟩ := ob hf
        refine g_getI dX4_readCall_32 ev5 t_224 hin8 hc8 (by decide) rfl ?_
        refine g_iconst (v := 1) dX4_readCall_35 (by decide) ?_
        refine g_iadd dX4_readCall_36 ?_
        obtain ⟨σ6, eσ6, hf⟩ := ob hf
        refine g_putI dX4_readCall_37 eσ6 (Or.inl t_224) hin8 hc8 (by decide) hty8 hnm8 (Or.inl rfl) rfl rfl rfl ?_
        refine g_aload_n (j := 0) dX4_readCall_40 rfl rfl ?_
        refine g_iload_n (j := 3) dX4_readCall_41 rfl rfl ?_
        refine g_iconst (v := 1) dX4_readCall_42 (by decide) ?_
        refine g_iadd dX4_readCall_43 ?_
        obtain ⟨_, h9, hf⟩ := ob hf
        obtain ⟨σ7, v8, eσ7, hf⟩ := cb_el hf
        refine g_callV_i dX4_readCall_44 (hq_readSum _ _ _ _ _ eσ7) (okX4_readSum d _ (by dsimp only [MtX4_readCall]; omega) (by dsimp only [MtX4_readCall]; omega)) (ckK_el h9) hc8 t_1380 t_1382 s_X4_readSum rfl (Nat.le_trans (cat_le _) (Nat.le_of_ble_eq_true rfl)) rfl ?_
        refine g_if_ne (tgt := 52) dX4_readCall_47 (by decide) (fun c10 => ?_) (fun c10 => ?_)
        · rw [if_neg c10] at hf
          obtain ⟨v11, ev11, hf⟩ := nm_el hf
          refine g_iinc (L' := [(4, .int v11), (0, rv x0), (1, .int x1), (2, .int x2), (3, .int x3), (5, .int x5)]) (j := 4) (v := v11) dX4_readCall_52 rfl (by rw [ev11]; rfl) (Nat.le_of_ble_eq_true rfl) rfl ?_
          refine g_aload_n (j := 1) dX4_readCall_55 rfl rfl ?_
          refine g_aload_n (j := 1) dX4_readCall_56 rfl rfl ?_
          obtain ⟨v12, ev12, hf⟩ := ob hf
          refine g_getI dX4_readCall_57 ev12 t_224 hin8 hc8 (by decide) rfl ?_
          obtain ⟨_, h15, hf⟩ := ob hf
          obtain ⟨σ13, v14, eσ13, hf⟩ := cb_el hf
          refine g_callV_i dX4_readCall_60 (wX4_tokenAt _ eσ13) (okX4_tokenAt _ (by dsimp only [MtX4_readCall]; omega) (by dsimp only [MtX4_readCall]; omega)) (ckK_el h15) hc8 t_1364 t_1366 s_X4_tokenAt rfl (Nat.le_trans (cat_le _) (Nat.le_of_ble_eq_true rfl)) rfl ?_
          refine g_bipush (v := 44) dX4_readCall_63 (by decide) ?_
          refine g_icmp_ne (tgt := 72) dX4_readCall_65 (by decide) (fun c16 => ?_) (fun c16 => ?_)
          · rw [if_neg c16] at hf
            refine g_iconst (v := 0) dX4_readCall_72 (by decide) ?_
            refine g_sub (L' := [(0, rv x0), (1, .int x1), (2, .int x2), (3, .int x3), (4, .int v11)]) [1, 2, 3, 4, 0] rfl ?_
            exact bX4_readCall_73 hq_readSum hX1 hX2 (fun σ x0 x1 x2 x3 x4 x5 hf => ih σ x0 x1 x2 x3 x4 x5 hf) hf
          · rw [if_pos c16] at hf
            refine g_iconst (v := 1) dX4_readCall_68 (by decide) ?_
            refine g_goto (tgt := 73) dX4_readCall_69 (by decide) ?_
            refine g_sub (L' := [(0, rv x0), (1, .int x1), (2, .int x2), (3, .int x3), (4, .int v11)]) [1, 2, 3, 4, 0] rfl ?_
            exact bX4_readCall_73 hq_readSum hX1 hX2 (fun σ x0 x1 x2 x3 x4 x5 hf => ih σ x0 x1 x2 x3 x4 x5 hf) hf
        · rw [if_pos c10] at hf
          refine g_iconst (v := 0) dX4_readCall_50 (by decide) ?_
          exact g_iret dX4_readCall_51 rfl (by decide) hX2 hX1 hf

set_option maxRecDepth 100000 in
set_option maxHeartbeats 4000000 in
theorem wX4_readCall (l : Launch) {d : Nat} {q_readSum : St → Nat → Int32 → Option (St × Int32)} (hq_readSum : ∀ (σ σf : St) (a : Nat) (z0 r : Int32), q_readSum σ a z0 = some (σf, r) → Con (MtX4_readSum d) yX4_readSum l σ [rv a, .int z0] σf (some (.int r))) {σ σf : St} {x0 : Nat} {x1 : Int32} {x2 : Int32} {x3 : Int32} {r : Int32} (hf : fX4_readCall q_readSum σ x0 x1 x2 x3 = some (σf, r)) : Con (MtX4_readCall (d + 1)) yX4_readCall l σ [rv x0, .int x1, .int x2, .int x3] σf (some (.int r)) := by
  refine Con.of (by decide +kernel) rfl (fun h => absurd (show false = true from h) (by decide)) (by simp only [sl_n, sl_r, sl_i, sl_l]; exact Nat.le_of_ble_eq_true rfl) ?_
  rw [show lv_args 0 [rv x0, .int x1, .int x2, .int x3] = [(0, rv x0), (1, .int x1), (2, .int x2), (3, .int x3)] by simp only [la_n, la_r, la_i, la_l] <;> rfl]
  have hX1 : ((l, σ, σf, .inl (some (.int r))) : Xt).2.2.1 = σf := rfl
  have hX2 : ((l, σ, σf, .inl (some (.int r))) : Xt).2.2.2 = .inl (some (.int r)) := rfl
  unfold fX4_readCall at hf
  refine g_iload_n (j := 3) dX4_readCall_0 rfl rfl ?_
  refine g_bipush (v := 12) dX4_readCall_1 (by decide) ?_
  refine g_icmp_lt (tgt := 8) dX4_readCall_3 (by decide) (fun c1 => ?_) (fun c1 => ?_)
  · rw [if_pos c1] at hf
    refine g_iconst (v := 0) dX4_readCall_8 (by decide) ?_
    refine g_istore (i := 4) (L' := [(4, .int 0), (0, rv x0), (1, .int x1), (2, .int x2), (3, .int x3)]) dX4_readCall_9 (Nat.le_of_ble_eq_true rfl) rfl ?_
    refine g_iconst (v := 1) dX4_readCall_11 (by decide) ?_
    refine g_istore (i := 5) (L' := [(5, .int 1), (4, .int 0), (0, rv x0), (1, .int x1), (2, .int x2), (3, .int x3)]) dX4_readCall_12 (Nat.le_of_ble_eq_true rfl) rfl ?_
    refine g_sub (L' := [(0, rv x0), (1, .int x1), (2, .int x2), (3, .int x3), (4, .int 0), (5, .int 1)]) [2, 3, 4, 5, 1, 0] rfl ?_
    exact bX4_readCall_14 hq_readSum hX1 hX2 FU _ _ _ _ _ _ _ hf
  · rw [if_neg c1] at hf
    refine g_iconst (v := 0) dX4_readCall_6 (by decide) ?_
    exact g_iret dX4_readCall_7 rfl (by decide) hX2 hX1 hf

theorem wRd (l : Launch) : ∀ d : Nat, (∀ (σ σf : St) (a : Nat) (z0 r : Int32), (fRd d).1 σ a z0 = some (σf, r) → Con (MtX4_readSum d) yX4_readSum l σ [rv a, .int z0] σf (some (.int r))) ∧ (∀ (σ σf : St) (a : Nat) (z0 r : Int32), (fRd d).2.1 σ a z0 = some (σf, r) → Con (MtX4_readProduct d) yX4_readProduct l σ [rv a, .int z0] σf (some (.int r))) ∧ (∀ (σ σf : St) (a : Nat) (z0 r : Int32), (fRd d).2.2.1 σ a z0 = some (σf, r) → Con (MtX4_readMinus d) yX4_readMinus l σ [rv a, .int z0] σf (some (.int r))) ∧ (∀ (σ σf : St) (a : Nat) (z0 r : Int32), (fRd d).2.2.2.1 σ a z0 = some (σf, r) → Con (MtX4_readOpened d) yX4_readOpened l σ [rv a, .int z0] σf (some (.int r))) ∧ (∀ (σ σf : St) (a : Nat) (z0 r : Int32), (fRd d).2.2.2.2.1 σ a z0 = some (σf, r) → Con (MtX4_readPlain d) yX4_readPlain l σ [rv a, .int z0] σf (some (.int r))) ∧ (∀ (σ σf : St) (a : Nat) (z0 z1 z2 r : Int32), (fRd d).2.2.2.2.2 σ a z0 z1 z2 = some (σf, r) → Con (MtX4_readCall d) yX4_readCall l σ [rv a, .int z0, .int z1, .int z2] σf (some (.int r))) := by
  intro d
  induction d with
  | zero => exact ⟨(fun _ _ _ _ _ h => by simp [fRd] at h), (fun _ _ _ _ _ h => by simp [fRd] at h), (fun _ _ _ _ _ h => by simp [fRd] at h), (fun _ _ _ _ _ h => by simp [fRd] at h), (fun _ _ _ _ _ h => by simp [fRd] at h), (fun _ _ _ _ _ _ _ h => by simp [fRd] at h)⟩
  | succ d ih =>
    obtain ⟨i_readSum, i_readProduct, i_readMinus, i_readOpened, i_readPlain, i_readCall⟩ := ih
    exact ⟨fun σ σf a z0 r h => wX4_readSum l i_readProduct h, fun σ σf a z0 r h => wX4_readProduct l i_readMinus h, fun σ σf a z0 r h => wX4_readMinus l i_readOpened i_readPlain h, fun σ σf a z0 r h => wX4_readOpened l i_readMinus h, fun σ σf a z0 r h => wX4_readPlain l i_readCall i_readSum h, fun σ σf a z0 z1 z2 r h => wX4_readCall l i_readSum h⟩
theorem wgX4_readSum (l : Launch) {σ σf : St} {a : Nat} {z0 r : Int32} (h : gX4_readSum σ a z0 = some (σf, r)) : Con (MtX4_readSum 100) yX4_readSum l σ [rv a, .int z0] σf (some (.int r)) := (wRd l 100).1 _ _ _ _  _ h
theorem wgX4_readProduct (l : Launch) {σ σf : St} {a : Nat} {z0 r : Int32} (h : gX4_readProduct σ a z0 = some (σf, r)) : Con (MtX4_readProduct 100) yX4_readProduct l σ [rv a, .int z0] σf (some (.int r)) := (wRd l 100).2.1 _ _ _ _  _ h
theorem wgX4_readMinus (l : Launch) {σ σf : St} {a : Nat} {z0 r : Int32} (h : gX4_readMinus σ a z0 = some (σf, r)) : Con (MtX4_readMinus 100) yX4_readMinus l σ [rv a, .int z0] σf (some (.int r)) := (wRd l 100).2.2.1 _ _ _ _  _ h
theorem wgX4_readOpened (l : Launch) {σ σf : St} {a : Nat} {z0 r : Int32} (h : gX4_readOpened σ a z0 = some (σf, r)) : Con (MtX4_readOpened 100) yX4_readOpened l σ [rv a, .int z0] σf (some (.int r)) := (wRd l 100).2.2.2.1 _ _ _ _  _ h
theorem wgX4_readPlain (l : Launch) {σ σf : St} {a : Nat} {z0 r : Int32} (h : gX4_readPlain σ a z0 = some (σf, r)) : Con (MtX4_readPlain 100) yX4_readPlain l σ [rv a, .int z0] σf (some (.int r)) := (wRd l 100).2.2.2.2.1 _ _ _ _  _ h
theorem wgX4_readCall (l : Launch) {σ σf : St} {a : Nat} {z0 z1 z2 r : Int32} (h : gX4_readCall σ a z0 z1 z2 = some (σf, r)) : Con (MtX4_readCall 100) yX4_readCall l σ [rv a, .int z0, .int z1, .int z2] σf (some (.int r)) := (wRd l 100).2.2.2.2.2 _ _ _ _ _ _  _ h
abbrev MtX4_read : Mt := (cX4_read, 5, "ExactlySaid$Reader", (Option.some Jvm.ClassFile.FieldType.int), 105, 4423, false)
set_option maxRecDepth 100000 in
set_option maxHeartbeats 4000000 in
theorem bX4_read_97 {X : Xt} {σf : St} {r : Int32} (hX1 : X.2.2.1 = σf) (hX2 : X.2.2.2 = .inl (some (.int r))) {σ : St} {x0 : Nat} (hf : fX4_read_97 σ x0 = some (σf, r)) : G MtX4_read X σ 97 [(0, rv x0)] [] := by
  unfold fX4_read_97 at hf
  refine g_aload_n (j := 0) dX4_read_97 rfl rfl ?_
  refine g_aload_n (j := 0) dX4_read_98 rfl rfl ?_
  obtain ⟨v1, ev1, hf⟩ := ob hf
  refine g_getI dX4_read_99 ev1 t_224 hin8 hc8 (by decide) rfl ?_
  obtain ⟨_, h4, hf⟩ := ob hf
  obtain ⟨σ2, v3, eσ2, hf⟩ := cb_el hf
  refine g_callV_i dX4_read_102 (wX4_startAt _ eσ2) (okX4_startAt _ (by decide) (by decide)) (ckK_el h4) hc8 t_1372 t_1374 s_X4_startAt rfl (Nat.le_trans (cat_le _) (Nat.le_of_ble_eq_true rfl)) rfl ?_
  exact g_iret dX4_read_105 rfl rfl hX2 hX1 hf

set_option maxRecDepth 100000 in
set_option maxHeartbeats 4000000 in
theorem bX4_read_21 {X : Xt} {σf : St} {r : Int32} (hX1 : X.2.2.1 = σf) (hX2 : X.2.2.2 = .inl (some (.int r))) : ∀ (n : Nat) (σ : St) (x0 : Nat) (x1 : Nat) (x3 : Nat) (x4 : Int32), fX4_read_21 n σ x0 x1 x3 x4 = some (σf, r) → G MtX4_read X σ 21 [(0, rv x0), (1, rv x1), (3, rv x3), (4, .int x4)] [] := by
  intro n
  induction n with
  | zero => intro σ x0 x1 x3 x4 hf; cases hf
  | succ n ih =>
    intro σ x0 x1 x3 x4 hf
    rw [fX4_read_21] at hf
    refine g_iload (j := 3) dX4_read_21 rfl ?_
    refine g_aload_n (j := 0) dX4_read_23 rfl rfl ?_
    obtain ⟨v1, ev1, hf⟩ := ob hf
    refine g_getI dX4_read_24 ev1 t_219 hin8 hc8 (by decide) rfl ?_
    refine g_icmp_ge (tgt := 47) dX4_read_27 (by decide) (fun c2 => ?_) (fun c2 => ?_)
    · rw [if_pos c2] at hf
      refine g_aload_n (j := 0) dX4_read_47 rfl rfl ?_
      obtain ⟨_, h5, hf⟩ := ob hf
      obtain ⟨σ3, v4, eσ3, hf⟩ := cb_el hf
      refine g_callV_v dX4_read_48 (wX4_findTokens _ eσ3) (okX4_findTokens _ (by decide) (by decide)) (ckK_el h5) hc8 t_1316 t_1318 s_X4_findTokens rfl (Nat.le_trans (cat_le _) (Nat.le_of_ble_eq_true rfl)) rfl ?_
      refine g_aload_n (j := 0) dX4_read_51 rfl rfl ?_
      refine g_iconst (v := 0) dX4_read_52 (by decide) ?_
      obtain ⟨σ6, eσ6, hf⟩ := ob hf
      refine g_putI dX4_read_53 eσ6 (Or.inl t_229) hin8 hc8 (by decide) hty8 hnm8 (Or.inl rfl) rfl rfl rfl ?_
      refine g_aload_n (j := 0) dX4_read_56 rfl rfl ?_
      refine g_iconst (v := 0) dX4_read_57 (by decide) ?_
      obtain ⟨σ7, eσ7, hf⟩ := ob hf
      refine g_putI dX4_read_58 eσ7 (Or.inl t_230) hin8 hc8 (by decide) hty8 hnm8 (Or.inl rfl) rfl rfl rfl ?_
      refine g_aload_n (j := 0) dX4_read_61 rfl rfl ?_
      refine g_iconst (v := 0) dX4_read_62 (by decide) ?_
      obtain ⟨σ8, eσ8, hf⟩ := ob hf
      refine g_putI dX4_read_63 eσ8 (Or.inl t_238) hin8 hc8 (by decide) hty8 hnm8 (Or.inl rfl) rfl rfl rfl ?_
      refine g_aload_n (j := 0) dX4_read_66 rfl rfl ?_
      refine g_iconst (v := 0) dX4_read_67 (by decide) ?_
      obtain ⟨σ9, eσ9, hf⟩ := ob hf
      refine g_putI dX4_read_68 eσ9 (Or.inl t_224) hin8 hc8 (by decide) hty8 hnm8 (Or.inl rfl) rfl rfl rfl ?_
      refine g_aload_n (j := 0) dX4_read_71 rfl rfl ?_
      obtain ⟨_, h12, hf⟩ := ob hf
      obtain ⟨σ10, v11, eσ10, hf⟩ := cb_el hf
      refine g_callV_i dX4_read_72 (wX4_head _ eσ10) (okX4_head _ (by decide) (by decide)) (ckK_el h12) hc8 t_1356 t_1358 s_X4_head rfl (Nat.le_trans (cat_le _) (Nat.le_of_ble_eq_true rfl)) rfl ?_
      refine g_if_eq (tgt := 97) dX4_read_75 (by decide) (fun c13 => ?_) (fun c13 => ?_)
      · rw [if_pos c13] at hf
        refine g_sub (L' := [(0, rv x0)]) [0] rfl ?_
        exact bX4_read_97 hX1 hX2 hf
      · rw [if_neg c13] at hf
        refine g_aload_n (j := 0) dX4_read_78 rfl rfl ?_
        refine g_iconst (v := 0) dX4_read_79 (by decide) ?_
        obtain ⟨_, h16, hf⟩ := ob hf
        obtain ⟨σ14, v15, eσ14, hf⟩ := cb_el hf
        refine g_callV_i dX4_read_80 (wgX4_readSum _ eσ14) (okX4_readSum 100 _ (by decide) (by decide)) (ckK_el h16) hc8 t_1380 t_1382 s_X4_readSum rfl (Nat.le_trans (cat_le _) (Nat.le_of_ble_eq_true rfl)) rfl ?_
        refine g_if_eq (tgt := 97) dX4_read_83 (by decide) (fun c17 => ?_) (fun c17 => ?_)
        · rw [if_pos c17] at hf
          refine g_sub (L' := [(0, rv x0)]) [0] rfl ?_
          exact bX4_read_97 hX1 hX2 hf
        · rw [if_neg c17] at hf
          refine g_aload_n (j := 0) dX4_read_86 rfl rfl ?_
          refine g_aload_n (j := 0) dX4_read_87 rfl rfl ?_
          obtain ⟨v18, ev18, hf⟩ := ob hf
          refine g_getI dX4_read_88 ev18 t_224 hin8 hc8 (by decide) rfl ?_
          obtain ⟨_, h21, hf⟩ := ob hf
          obtain ⟨σ19, v20, eσ19, hf⟩ := cb_el hf
          refine g_callV_i dX4_read_91 (wX4_tokenAt _ eσ19) (okX4_tokenAt _ (by decide) (by decide)) (ckK_el h21) hc8 t_1364 t_1366 s_X4_tokenAt rfl (Nat.le_trans (cat_le _) (Nat.le_of_ble_eq_true rfl)) rfl ?_
          refine g_if_eq (tgt := 106) dX4_read_94 (by decide) (fun c22 => ?_) (fun c22 => ?_)
          · rw [if_pos c22] at hf
            refine g_aload_n (j := 0) dX4_read_106 rfl rfl ?_
            obtain ⟨σ23, eσ23, hf⟩ := nm_el hf
            obtain ⟨a24, ea24, hf⟩ := nm_el hf
            refine g_new9 dX4_read_107 hc13 hin13 hty13 hdf13 t_1420 t_1421 t_22 eσ23 ea24 ?_
            refine g_dup dX4_read_110 (rv_cat _) ?_
            refine g_aload_n (j := 0) dX4_read_111 rfl rfl ?_
            obtain ⟨v25, ev25, hf⟩ := ob hf
            refine g_getF dX4_read_112 ev25 t_225 hin8 hc8 (by decide) rfl ?_
            refine g_aload_n (j := 0) dX4_read_115 rfl rfl ?_
            obtain ⟨v26, ev26, hf⟩ := ob hf
            refine g_getI dX4_read_116 ev26 t_229 hin8 hc8 (by decide) rfl ?_
            obtain ⟨σ27, a28, eσ27, hf⟩ := cb_el hf
            refine g_callS_q dX4_read_119 (wJ7_copyOf_59c91 _ eσ27) (okJ7_copyOf_59c91 _ (by decide) (by decide)) t_1422 t_901 rfl (Nat.le_trans (cat_le _) (Nat.le_of_ble_eq_true rfl)) rfl ?_
            refine g_aload_n (j := 0) dX4_read_122 rfl rfl ?_
            obtain ⟨v29, ev29, hf⟩ := ob hf
            refine g_getF dX4_read_123 ev29 t_226 hin8 hc8 (by decide) rfl ?_
            refine g_aload_n (j := 0) dX4_read_126 rfl rfl ?_
            obtain ⟨v30, ev30, hf⟩ := ob hf
            refine g_getI dX4_read_127 ev30 t_229 hin8 hc8 (by decide) rfl ?_
            obtain ⟨σ31, a32, eσ31, hf⟩ := cb_el hf
            refine g_callS_q dX4_read_130 (wJ7_copyOf_59c91 _ eσ31) (okJ7_copyOf_59c91 _ (by decide) (by decide)) t_1422 t_901 rfl (Nat.le_trans (cat_le _) (Nat.le_of_ble_eq_true rfl)) rfl ?_
            refine g_aload_n (j := 0) dX4_read_133 rfl rfl ?_
            obtain ⟨v33, ev33, hf⟩ := ob hf
            refine g_getF dX4_read_134 ev33 t_227 hin8 hc8 (by decide) rfl ?_
            refine g_aload_n (j := 0) dX4_read_137 rfl rfl ?_
            obtain ⟨v34, ev34, hf⟩ := ob hf
            refine g_getI dX4_read_138 ev34 t_229 hin8 hc8 (by decide) rfl ?_
            obtain ⟨σ35, a36, eσ35, hf⟩ := cb_el hf
            refine g_callS_q dX4_read_141 (wJ7_copyOf_59c91 _ eσ35) (okJ7_copyOf_59c91 _ (by decide) (by decide)) t_1422 t_901 rfl (by simp only [List.map_cons, List.map_nil, rv_cat, show ∀ x : Int32, (Value.int x).category = 1 from fun _ => rfl, show ∀ x : Int64, (Value.long x).category = 2 from fun _ => rfl]; decide) rfl ?_
            refine g_aload_n (j := 0) dX4_read_144 rfl rfl ?_
            obtain ⟨v37, ev37, hf⟩ := ob hf
            refine g_getF dX4_read_145 ev37 t_228 hin8 hc8 (by decide) rfl ?_
            refine g_aload_n (j := 0) dX4_read_148 rfl rfl ?_
            obtain ⟨v38, ev38, hf⟩ := ob hf
            refine g_getI dX4_read_149 ev38 t_229 hin8 hc8 (by decide) rfl ?_
            obtain ⟨σ39, a40, eσ39, hf⟩ := cb_el hf
            refine g_callS_q dX4_read_152 (wJ7_copyOf_59c91 _ eσ39) (okJ7_copyOf_59c91 _ (by decide) (by decide)) t_1422 t_901 rfl (by simp only [List.map_cons, List.map_nil, rv_cat, show ∀ x : Int32, (Value.int x).category = 1 from fun _ => rfl, show ∀ x : Int64, (Value.long x).category = 2 from fun _ => rfl]; decide) rfl ?_
            refine g_aload_n (j := 0) dX4_read_155 rfl rfl ?_
            refine g_aload_n (j := 2) dX4_read_156 rfl rfl ?_
            obtain ⟨_, h43, hf⟩ := ob hf
            obtain ⟨σ41, a42, eσ41, hf⟩ := cb_el hf
            refine g_callV_q dX4_read_157 (wX4_readNumbers _ eσ41) (okX4_readNumbers _ (by decide) (by decide)) (ckK_el h43) hc8 t_1423 t_1425 s_X4_readNumbers rfl (by simp only [List.map_cons, List.map_nil, rv_cat, show ∀ x : Int32, (Value.int x).category = 1 from fun _ => rfl, show ∀ x : Int64, (Value.long x).category = 2 from fun _ => rfl]; decide) rfl ?_
            obtain ⟨_, h46, hf⟩ := ob hf
            obtain ⟨σ44, v45, eσ44, hf⟩ := cb_el hf
            refine g_callIN dX4_read_160 (wX9_init _ eσ44) (okX9_init _ (by decide) (by decide)) rfl (by rw [ckK_el h46]; decide) rfl t_1440 t_1441 rfl (Nat.le_trans (cat_le _) (Nat.le_of_ble_eq_true rfl)) rfl ?_
            obtain ⟨σ47, eσ47, hf⟩ := ob hf
            refine g_putF dX4_read_163 eσ47 (Or.inl t_240) hin8 hc8 (by decide) hty8 hnm8 (Or.inl rfl) rfl ?_
            refine g_iconst (v := (-1)) dX4_read_166 (by decide) ?_
            exact g_iret dX4_read_167 rfl rfl hX2 hX1 hf
          · rw [if_neg c22] at hf
            refine g_sub (L' := [(0, rv x0)]) [0] rfl ?_
            exact bX4_read_97 hX1 hX2 hf
    · rw [if_neg c2] at hf
      refine g_aload_n (j := 0) dX4_read_30 rfl rfl ?_
      obtain ⟨v48, ev48, hf⟩ := ob hf
      refine g_getF dX4_read_31 ev48 t_218 hin8 hc8 (by decide) rfl ?_
      refine g_iload (j := 3) dX4_read_34 rfl ?_
      refine g_aload_n (j := 1) dX4_read_36 rfl rfl ?_
      refine g_iload (j := 3) dX4_read_37 rfl ?_
      obtain ⟨v49, ev49, hf⟩ := ob hf
      refine g_iald dX4_read_39 ev49 ?_
      obtain ⟨σ50, eσ50, hf⟩ := ob hf
      refine g_iast dX4_read_40 eσ50 ?_
      obtain ⟨v51, ev51, hf⟩ := nm_el hf
      refine g_iinc (L' := [(4, .int v51), (0, rv x0), (1, rv x1), (3, rv x3)]) (j := 3) (v := v51) dX4_read_41 rfl (by rw [ev51]; rfl) (Nat.le_of_ble_eq_true rfl) (by simp [rv_cat]) ?_
      refine g_goto (tgt := 21) dX4_read_44 (by decide) ?_
      refine g_sub (L' := [(0, rv x0), (1, rv x1), (3, rv x3), (4, .int v51)]) [1, 2, 3, 0] rfl ?_
      exact ih _ _ _ _ _ hf

set_option maxRecDepth 100000 in
set_option maxHeartbeats 4000000 in
theorem wX4_read (l : Launch) {σ σf : St} {x0 : Nat} {x1 : Nat} {x2 : Int32} {x3 : Nat} {r : Int32} (hf : fX4_read σ x0 x1 x2 x3 = some (σf, r)) : Con MtX4_read yX4_read l σ [rv x0, rv x1, .int x2, rv x3] σf (some (.int r)) := by
  refine Con.of (by decide +kernel) rfl (fun h => absurd (show false = true from h) (by decide)) (by simp only [sl_n, sl_r, sl_i, sl_l]; exact Nat.le_of_ble_eq_true rfl) ?_
  rw [show lv_args 0 [rv x0, rv x1, .int x2, rv x3] = [(0, rv x0), (1, rv x1), (2, .int x2), (3, rv x3)] by simp only [la_n, la_r, la_i, la_l] <;> rfl]
  have hX1 : ((l, σ, σf, .inl (some (.int r))) : Xt).2.2.1 = σf := rfl
  have hX2 : ((l, σ, σf, .inl (some (.int r))) : Xt).2.2.2 = .inl (some (.int r)) := rfl
  unfold fX4_read at hf
  refine g_aload_n (j := 0) dX4_read_0 rfl rfl ?_
  refine g_iload_n (j := 2) dX4_read_1 rfl rfl ?_
  refine g_aload_n (j := 1) dX4_read_2 rfl rfl ?_
  obtain ⟨v1, ev1, hf⟩ := ob hf
  refine g_alen dX4_read_3 ev1 ?_
  refine g_aload_n (j := 0) dX4_read_4 rfl rfl ?_
  obtain ⟨v2, ev2, hf⟩ := ob hf
  refine g_getF dX4_read_5 ev2 t_218 hin8 hc8 (by decide) rfl ?_
  obtain ⟨v3, ev3, hf⟩ := ob hf
  refine g_alen dX4_read_8 ev3 ?_
  refine g_mmin dX4_read_9 t_1315 t_523 t_15 t_524 (by decide) (by decide) (Nat.le_of_ble_eq_true rfl) ?_
  refine g_mmin dX4_read_12 t_1315 t_523 t_15 t_524 (by decide) (by decide) (Nat.le_of_ble_eq_true rfl) ?_
  obtain ⟨σ4, eσ4, hf⟩ := ob hf
  refine g_putI dX4_read_15 eσ4 (Or.inl t_219) hin8 hc8 (by decide) hty8 hnm8 (Or.inl rfl) rfl rfl rfl ?_
  refine g_iconst (v := 0) dX4_read_18 (by decide) ?_
  refine g_istore (i := 4) (L' := [(4, .int 0), (0, rv x0), (1, rv x1), (2, .int x2), (3, rv x3)]) dX4_read_19 (Nat.le_of_ble_eq_true rfl) (by simp [rv_cat]) ?_
  refine g_sub (L' := [(0, rv x0), (1, rv x1), (3, rv x3), (4, .int 0)]) [1, 2, 4, 0] rfl ?_
  exact bX4_read_21 hX1 hX2 FU _ _ _ _ _ hf

theorem okX4_read (M : Mt) (h1 : 105 + 1 ≤ M.2.2.2.2.1) (h2 : 8 + (5 + 11) + 4423 ≤ M.2.2.2.2.2.1) : CallOk M MtX4_read yX4_read 3 := ⟨t_1314, h1, h2, ⟨by decide, by decide⟩, by decide +kernel, t_10⟩
