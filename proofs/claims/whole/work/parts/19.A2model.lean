abbrev MtX12_multipliesAll : Mt := (cX12_multipliesAll, 3, "ExactlySaidModel", (Option.some Jvm.ClassFile.FieldType.int), 3, 130, false)
set_option maxRecDepth 100000 in
set_option maxHeartbeats 4000000 in
theorem bX12_multipliesAll_16 {X : Xt} {σf : St} {r : Int32} (hX1 : X.2.2.1 = σf) (hX2 : X.2.2.2 = .inl (some (.int r))) : ∀ (n : Nat) (σ : St) (x0 : Nat) (x1 : Int32) (x2 : Int32), fX12_multipliesAll_16 n σ x0 x1 x2 = some (σf, r) → G MtX12_multipliesAll X σ 16 [(0, rv x0), (1, .int x1), (2, .int x2)] [] := by
  intro n
  induction n with
  | zero => intro σ x0 x1 x2 hf; cases hf
  | succ n ih =>
    intro σ x0 x1 x2 hf
    rw [fX12_multipliesAll_16] at hf
    refine g_iload_n (j := 2) dX12_multipliesAll_16 rfl rfl ?_
    refine g_aload_n (j := 0) dX12_multipliesAll_17 rfl rfl ?_
    refine g_iload_n (j := 1) dX12_multipliesAll_18 rfl rfl ?_
    obtain ⟨_, h3, hf⟩ := ob hf
    obtain ⟨σ1, v2, eσ1, hf⟩ := cb_el hf
    refine g_callV_i dX12_multipliesAll_19 (wX12_asInt _ eσ1) (okX12_asInt _ (by decide) (by decide)) (ckK_el h3) hc16 t_2423 t_2425 s_X12_asInt rfl (Nat.le_trans (cat_le _) (Nat.le_of_ble_eq_true rfl)) rfl ?_
    refine g_icmp_gt (tgt := 38) dX12_multipliesAll_22 (by decide) (fun c4 => ?_) (fun c4 => ?_)
    · rw [if_pos c4] at hf
      refine g_iconst (v := 1) dX12_multipliesAll_38 (by decide) ?_
      exact g_iret dX12_multipliesAll_39 rfl rfl hX2 hX1 hf
    · rw [if_neg c4] at hf
      refine g_aload_n (j := 0) dX12_multipliesAll_25 rfl rfl ?_
      refine g_bipush (v := 6) dX12_multipliesAll_26 (by decide) ?_
      refine g_iload_n (j := 2) dX12_multipliesAll_28 rfl rfl ?_
      obtain ⟨_, h7, hf⟩ := ob hf
      obtain ⟨σ5, v6, eσ5, hf⟩ := cb_el hf
      refine g_callV_v dX12_multipliesAll_29 (wX12_times _ eσ5) (okX12_times _ (by decide) (by decide)) (ckK_el h7) hc16 t_1947 t_1949 s_X12_times rfl (Nat.le_trans (cat_le _) (Nat.le_of_ble_eq_true rfl)) rfl ?_
      obtain ⟨v8, ev8, hf⟩ := nm_el hf
      refine g_iinc (L' := [(2, .int v8), (0, rv x0), (1, .int x1)]) (j := 2) (v := v8) dX12_multipliesAll_32 rfl (by rw [ev8]; rfl) (Nat.le_of_ble_eq_true rfl) rfl ?_
      refine g_goto (tgt := 16) dX12_multipliesAll_35 (by decide) ?_
      refine g_sub (L' := [(0, rv x0), (1, .int x1), (2, .int v8)]) [1, 2, 0] rfl ?_
      exact ih _ _ _ _ hf

set_option maxRecDepth 100000 in
set_option maxHeartbeats 4000000 in
theorem wX12_multipliesAll (l : Launch) {σ σf : St} {x0 : Nat} {x1 : Int32} {r : Int32} (hf : fX12_multipliesAll σ x0 x1 = some (σf, r)) : Con MtX12_multipliesAll yX12_multipliesAll l σ [rv x0, .int x1] σf (some (.int r)) := by
  refine Con.of (by decide +kernel) rfl (fun h => absurd (show false = true from h) (by decide)) (by simp only [sl_n, sl_r, sl_i, sl_l]; exact Nat.le_of_ble_eq_true rfl) ?_
  rw [show lv_args 0 [rv x0, .int x1] = [(0, rv x0), (1, .int x1)] by simp only [la_n, la_r, la_i, la_l] <;> rfl]
  have hX1 : ((l, σ, σf, .inl (some (.int r))) : Xt).2.2.1 = σf := rfl
  have hX2 : ((l, σ, σf, .inl (some (.int r))) : Xt).2.2.2 = .inl (some (.int r)) := rfl
  unfold fX12_multipliesAll at hf
  refine g_aload_n (j := 0) dX12_multipliesAll_0 rfl rfl ?_
  refine g_bipush (v := 6) dX12_multipliesAll_1 (by decide) ?_
  refine g_iconst (v := 1) dX12_multipliesAll_3 (by decide) ?_
  obtain ⟨_, h3, hf⟩ := ob hf
  obtain ⟨σ1, v2, eσ1, hf⟩ := cb_el hf
  refine g_callV_v dX12_multipliesAll_4 (wX12_puts _ eσ1) (okX12_puts _ (by decide) (by decide)) (ckK_el h3) hc16 t_1911 t_1913 s_X12_puts rfl (Nat.le_trans (cat_le _) (Nat.le_of_ble_eq_true rfl)) rfl ?_
  refine g_aload_n (j := 0) dX12_multipliesAll_7 rfl rfl ?_
  refine g_bipush (v := 7) dX12_multipliesAll_8 (by decide) ?_
  refine g_iconst (v := 1) dX12_multipliesAll_10 (by decide) ?_
  obtain ⟨_, h6, hf⟩ := ob hf
  obtain ⟨σ4, v5, eσ4, hf⟩ := cb_el hf
  refine g_callV_v dX12_multipliesAll_11 (wX12_puts _ eσ4) (okX12_puts _ (by decide) (by decide)) (ckK_el h6) hc16 t_1911 t_1913 s_X12_puts rfl (Nat.le_trans (cat_le _) (Nat.le_of_ble_eq_true rfl)) rfl ?_
  refine g_iconst (v := 2) dX12_multipliesAll_14 (by decide) ?_
  refine g_istore_n (i := 2) (L' := [(2, .int 2), (0, rv x0), (1, .int x1)]) dX12_multipliesAll_15 rfl (Nat.le_of_ble_eq_true rfl) rfl ?_
  refine g_sub (L' := [(0, rv x0), (1, .int x1), (2, .int 2)]) [1, 2, 0] rfl ?_
  exact bX12_multipliesAll_16 hX1 hX2 FU _ _ _ _ hf

theorem okX12_multipliesAll (M : Mt) (h1 : 3 + 1 ≤ M.2.2.2.2.1) (h2 : 8 + (3 + 11) + 130 ≤ M.2.2.2.2.2.1) : CallOk M MtX12_multipliesAll yX12_multipliesAll 1 := ⟨t_2462, h1, h2, ⟨by decide, by decide⟩, by decide +kernel, t_16⟩
abbrev MtX12_factors : Mt := (cX12_factors, 4, "ExactlySaidModel", (Option.some Jvm.ClassFile.FieldType.int), 5, 190, false)
set_option maxRecDepth 100000 in
set_option maxHeartbeats 4000000 in
theorem bX12_factors_76 {X : Xt} {σf : St} {r : Int32} (hX1 : X.2.2.1 = σf) (hX2 : X.2.2.2 = .inl (some (.int r))) {σ : St} {x0 : Nat} (hf : fX12_factors_76 σ x0 = some (σf, r)) : G MtX12_factors X σ 76 [(0, rv x0)] [] := by
  unfold fX12_factors_76 at hf
  refine g_aload_n (j := 0) dX12_factors_76 rfl rfl ?_
  refine g_bipush (v := 7) dX12_factors_77 (by decide) ?_
  refine g_iconst (v := 1) dX12_factors_79 (by decide) ?_
  obtain ⟨_, h3, hf⟩ := ob hf
  obtain ⟨σ1, v2, eσ1, hf⟩ := cb_el hf
  refine g_callV_v dX12_factors_80 (wX12_puts _ eσ1) (okX12_puts _ (by decide) (by decide)) (ckK_el h3) hc16 t_1911 t_1913 s_X12_puts rfl (Nat.le_trans (cat_le _) (Nat.le_of_ble_eq_true rfl)) rfl ?_
  refine g_iconst (v := 1) dX12_factors_83 (by decide) ?_
  exact g_iret dX12_factors_84 rfl rfl hX2 hX1 hf

set_option maxRecDepth 100000 in
set_option maxHeartbeats 4000000 in
theorem bX12_factors_44 {X : Xt} {σf : St} {r : Int32} (hX1 : X.2.2.1 = σf) (hX2 : X.2.2.2 = .inl (some (.int r))) {σ : St} {x0 : Nat} (hf : fX12_factors_44 σ x0 = some (σf, r)) : G MtX12_factors X σ 44 [(0, rv x0)] [] := by
  unfold fX12_factors_44 at hf
  refine g_aload_n (j := 0) dX12_factors_44 rfl rfl ?_
  refine g_bipush (v := 6) dX12_factors_45 (by decide) ?_
  refine g_iconst (v := 0) dX12_factors_47 (by decide) ?_
  obtain ⟨_, h3, hf⟩ := ob hf
  obtain ⟨σ1, v2, eσ1, hf⟩ := cb_el hf
  refine g_callV_v dX12_factors_48 (wX12_puts _ eσ1) (okX12_puts _ (by decide) (by decide)) (ckK_el h3) hc16 t_1911 t_1913 s_X12_puts rfl (Nat.le_trans (cat_le _) (Nat.le_of_ble_eq_true rfl)) rfl ?_
  refine g_goto (tgt := 76) dX12_factors_51 (by decide) ?_
  exact bX12_factors_76 hX1 hX2 hf

set_option maxRecDepth 100000 in
set_option maxHeartbeats 4000000 in
theorem wX12_factors (l : Launch) {σ σf : St} {x0 : Nat} {x1 : Int32} {x2 : Int32} {x3 : Int32} {r : Int32} (hf : fX12_factors σ x0 x1 x2 x3 = some (σf, r)) : Con MtX12_factors yX12_factors l σ [rv x0, .int x1, .int x2, .int x3] σf (some (.int r)) := by
  refine Con.of (by decide +kernel) rfl (fun h => absurd (show false = true from h) (by decide)) (by simp only [sl_n, sl_r, sl_i, sl_l]; exact Nat.le_of_ble_eq_true rfl) ?_
  rw [show lv_args 0 [rv x0, .int x1, .int x2, .int x3] = [(0, rv x0), (1, .int x1), (2, .int x2), (3, .int x3)] by simp only [la_n, la_r, la_i, la_l] <;> rfl]
  have hX1 : ((l, σ, σf, .inl (some (.int r))) : Xt).2.2.1 = σf := rfl
  have hX2 : ((l, σ, σf, .inl (some (.int r))) : Xt).2.2.2 = .inl (some (.int r)) := rfl
  unfold fX12_factors at hf
  refine g_aload_n (j := 0) dX12_factors_0 rfl rfl ?_
  refine g_iload_n (j := 2) dX12_factors_1 rfl rfl ?_
  refine g_iload_n (j := 3) dX12_factors_2 rfl rfl ?_
  obtain ⟨_, h3, hf⟩ := ob hf
  obtain ⟨σ1, v2, eσ1, hf⟩ := cb_el hf
  refine g_callV_v dX12_factors_3 (wX12_loadsBoth _ eσ1) (okX12_loadsBoth _ (by decide) (by decide)) (ckK_el h3) hc16 t_2435 t_2437 s_X12_loadsBoth rfl (Nat.le_trans (cat_le _) (Nat.le_of_ble_eq_true rfl)) rfl ?_
  refine g_aload_n (j := 0) dX12_factors_6 rfl rfl ?_
  refine g_iconst (v := 0) dX12_factors_7 (by decide) ?_
  refine g_iconst (v := 2) dX12_factors_8 (by decide) ?_
  obtain ⟨_, h6, hf⟩ := ob hf
  obtain ⟨σ4, v5, eσ4, hf⟩ := cb_el hf
  refine g_callV_v dX12_factors_9 (wX12_finds _ eσ4) (okX12_finds _ (by decide) (by decide)) (ckK_el h6) hc16 t_1923 t_1925 s_X12_finds rfl (Nat.le_trans (cat_le _) (Nat.le_of_ble_eq_true rfl)) rfl ?_
  refine g_aload_n (j := 0) dX12_factors_12 rfl rfl ?_
  refine g_bipush (v := 6) dX12_factors_13 (by decide) ?_
  refine g_bipush (v := 8) dX12_factors_15 (by decide) ?_
  obtain ⟨_, h9, hf⟩ := ob hf
  obtain ⟨σ7, v8, eσ7, hf⟩ := cb_el hf
  refine g_callV_v dX12_factors_17 (wX12_copies _ eσ7) (okX12_copies _ (by decide) (by decide)) (ckK_el h9) hc16 t_1927 t_1929 s_X12_copies rfl (Nat.le_trans (cat_le _) (Nat.le_of_ble_eq_true rfl)) rfl ?_
  refine g_iload_n (j := 1) dX12_factors_20 rfl rfl ?_
  refine g_bipush (v := 11) dX12_factors_21 (by decide) ?_
  refine g_icmp_ne (tgt := 76) dX12_factors_23 (by decide) (fun c10 => ?_) (fun c10 => ?_)
  · rw [if_neg c10] at hf
    refine g_sub (L' := [(0, rv x0)]) [0] rfl ?_
    exact bX12_factors_76 hX1 hX2 hf
  · rw [if_pos c10] at hf
    refine g_aload_n (j := 0) dX12_factors_26 rfl rfl ?_
    obtain ⟨v11, ev11, hf⟩ := ob hf
    refine g_getF dX12_factors_27 ev11 t_1970 hin16 hc16 (by decide) rfl ?_
    refine g_iload_n (j := 2) dX12_factors_30 rfl rfl ?_
    obtain ⟨v12, ev12, hf⟩ := ob hf
    refine g_iald dX12_factors_31 ev12 ?_
    refine g_if_eq (tgt := 44) dX12_factors_32 (by decide) (fun c13 => ?_) (fun c13 => ?_)
    · rw [if_pos c13] at hf
      refine g_sub (L' := [(0, rv x0)]) [0] rfl ?_
      exact bX12_factors_44 hX1 hX2 hf
    · rw [if_neg c13] at hf
      refine g_aload_n (j := 0) dX12_factors_35 rfl rfl ?_
      obtain ⟨v14, ev14, hf⟩ := ob hf
      refine g_getF dX12_factors_36 ev14 t_1970 hin16 hc16 (by decide) rfl ?_
      refine g_iload_n (j := 3) dX12_factors_39 rfl rfl ?_
      obtain ⟨v15, ev15, hf⟩ := ob hf
      refine g_iald dX12_factors_40 ev15 ?_
      refine g_if_ne (tgt := 54) dX12_factors_41 (by decide) (fun c16 => ?_) (fun c16 => ?_)
      · rw [if_neg c16] at hf
        refine g_aload_n (j := 0) dX12_factors_54 rfl rfl ?_
        refine g_iconst (v := 0) dX12_factors_55 (by decide) ?_
        refine g_bipush (v := 8) dX12_factors_56 (by decide) ?_
        obtain ⟨_, h19, hf⟩ := ob hf
        obtain ⟨σ17, v18, eσ17, hf⟩ := cb_el hf
        refine g_callV_v dX12_factors_58 (wX12_divides _ eσ17) (okX12_divides _ (by decide) (by decide)) (ckK_el h19) hc16 t_1931 t_1933 s_X12_divides rfl (Nat.le_trans (cat_le _) (Nat.le_of_ble_eq_true rfl)) rfl ?_
        refine g_aload_n (j := 0) dX12_factors_61 rfl rfl ?_
        refine g_iconst (v := 4) dX12_factors_62 (by decide) ?_
        refine g_bipush (v := 9) dX12_factors_63 (by decide) ?_
        obtain ⟨_, h22, hf⟩ := ob hf
        obtain ⟨σ20, v21, eσ20, hf⟩ := cb_el hf
        refine g_callV_v dX12_factors_65 (wX12_copies _ eσ20) (okX12_copies _ (by decide) (by decide)) (ckK_el h22) hc16 t_1927 t_1929 s_X12_copies rfl (Nat.le_trans (cat_le _) (Nat.le_of_ble_eq_true rfl)) rfl ?_
        refine g_aload_n (j := 0) dX12_factors_68 rfl rfl ?_
        refine g_bipush (v := 6) dX12_factors_69 (by decide) ?_
        refine g_iconst (v := 4) dX12_factors_71 (by decide) ?_
        refine g_iconst (v := 2) dX12_factors_72 (by decide) ?_
        obtain ⟨_, h25, hf⟩ := ob hf
        obtain ⟨σ23, v24, eσ23, hf⟩ := cb_el hf
        refine g_callV_v dX12_factors_73 (wX12_multiplies _ eσ23) (okX12_multiplies _ (by decide) (by decide)) (ckK_el h25) hc16 t_2310 t_2312 s_X12_multiplies rfl (Nat.le_trans (cat_le _) (Nat.le_of_ble_eq_true rfl)) rfl ?_
        refine g_sub (L' := [(0, rv x0)]) [0] rfl ?_
        exact bX12_factors_76 hX1 hX2 hf
      · rw [if_pos c16] at hf
        refine g_sub (L' := [(0, rv x0)]) [0] rfl ?_
        exact bX12_factors_44 hX1 hX2 hf

theorem okX12_factors (M : Mt) (h1 : 5 + 1 ≤ M.2.2.2.2.1) (h2 : 8 + (4 + 11) + 190 ≤ M.2.2.2.2.2.1) : CallOk M MtX12_factors yX12_factors 3 := ⟨t_2466, h1, h2, ⟨by decide, by decide⟩, by decide +kernel, t_16⟩
abbrev MtX12_rounds : Mt := (cX12_rounds, 5, "ExactlySaidModel", none, 4, 168, false)
set_option maxRecDepth 100000 in
set_option maxHeartbeats 4000000 in
theorem bX12_rounds_139 {X : Xt} {σf : St} {r : Unit} (hX1 : X.2.2.1 = σf) (hX2 : X.2.2.2 = .inl (none)) {σ : St} {x0 : Nat} (hf : fX12_rounds_139 σ x0 = some (σf, r)) : G MtX12_rounds X σ 139 [(0, rv x0)] [] := by
  unfold fX12_rounds_139 at hf
  refine g_aload_n (j := 0) dX12_rounds_139 rfl rfl ?_
  refine g_bipush (v := 7) dX12_rounds_140 (by decide) ?_
  refine g_iconst (v := 1) dX12_rounds_142 (by decide) ?_
  obtain ⟨_, h3, hf⟩ := ob hf
  obtain ⟨σ1, v2, eσ1, hf⟩ := cb_el hf
  refine g_callV_v dX12_rounds_143 (wX12_puts _ eσ1) (okX12_puts _ (by decide) (by decide)) (ckK_el h3) hc16 t_1911 t_1913 s_X12_puts rfl (Nat.le_trans (cat_le _) (Nat.le_of_ble_eq_true rfl)) rfl ?_
  exact g_vret dX12_rounds_146 rfl hX2 hX1 hf

set_option maxRecDepth 100000 in
set_option maxHeartbeats 4000000 in
theorem bX12_rounds_122 {X : Xt} {σf : St} {r : Unit} (hX1 : X.2.2.1 = σf) (hX2 : X.2.2.2 = .inl (none)) {σ : St} {x0 : Nat} {x3 : Int32} (hf : fX12_rounds_122 σ x0 x3 = some (σf, r)) : G MtX12_rounds X σ 122 [(0, rv x0), (3, .int x3)] [] := by
  unfold fX12_rounds_122 at hf
  refine g_aload_n (j := 0) dX12_rounds_122 rfl rfl ?_
  refine g_iconst (v := 4) dX12_rounds_123 (by decide) ?_
  refine g_iconst (v := 1) dX12_rounds_124 (by decide) ?_
  obtain ⟨_, h3, hf⟩ := ob hf
  obtain ⟨σ1, v2, eσ1, hf⟩ := cb_el hf
  refine g_callV_v dX12_rounds_125 (wX12_puts _ eσ1) (okX12_puts _ (by decide) (by decide)) (ckK_el h3) hc16 t_1911 t_1913 s_X12_puts rfl (Nat.le_trans (cat_le _) (Nat.le_of_ble_eq_true rfl)) rfl ?_
  refine g_iload_n (j := 1) dX12_rounds_128 rfl rfl ?_
  refine g_if_eq (tgt := 139) dX12_rounds_129 (by decide) (fun c4 => ?_) (fun c4 => ?_)
  · rw [if_pos c4] at hf
    refine g_sub (L' := [(0, rv x0)]) [0] rfl ?_
    exact bX12_rounds_139 hX1 hX2 hf
  · rw [if_neg c4] at hf
    refine g_aload_n (j := 0) dX12_rounds_132 rfl rfl ?_
    refine g_bipush (v := 6) dX12_rounds_133 (by decide) ?_
    refine g_iconst (v := 4) dX12_rounds_135 (by decide) ?_
    obtain ⟨_, h7, hf⟩ := ob hf
    obtain ⟨σ5, v6, eσ5, hf⟩ := cb_el hf
    refine g_callV_v dX12_rounds_136 (wX12_adds _ eσ5) (okX12_adds _ (by decide) (by decide)) (ckK_el h7) hc16 t_2302 t_2304 s_X12_adds rfl (Nat.le_trans (cat_le _) (Nat.le_of_ble_eq_true rfl)) rfl ?_
    refine g_sub (L' := [(0, rv x0)]) [0] rfl ?_
    exact bX12_rounds_139 hX1 hX2 hf

set_option maxRecDepth 100000 in
set_option maxHeartbeats 4000000 in
theorem bX12_rounds_121 {X : Xt} {σf : St} {r : Unit} (hX1 : X.2.2.1 = σf) (hX2 : X.2.2.2 = .inl (none)) {σ : St} {x0 : Nat} {y0 : Int32} (hf : fX12_rounds_121 σ x0 y0 = some (σf, r)) : G MtX12_rounds X σ 121 [(0, rv x0)] [.int y0] := by
  unfold fX12_rounds_121 at hf
  refine g_istore_n (i := 3) (L' := [(3, .int y0), (0, rv x0)]) dX12_rounds_121 rfl (Nat.le_of_ble_eq_true rfl) rfl ?_
  refine g_sub (L' := [(0, rv x0), (3, .int y0)]) [1, 0] rfl ?_
  exact bX12_rounds_122 hX1 hX2 hf

set_option maxRecDepth 100000 in
set_option maxHeartbeats 4000000 in
theorem bX12_rounds_116 {X : Xt} {σf : St} {r : Unit} (hX1 : X.2.2.1 = σf) (hX2 : X.2.2.2 = .inl (none)) {σ : St} {x0 : Nat} (hf : fX12_rounds_116 σ x0 = some (σf, r)) : G MtX12_rounds X σ 116 [(0, rv x0)] [] := by
  unfold fX12_rounds_116 at hf
  refine g_iconst (v := 1) dX12_rounds_116 (by decide) ?_
  refine g_goto (tgt := 121) dX12_rounds_117 (by decide) ?_
  exact bX12_rounds_121 hX1 hX2 hf

set_option maxRecDepth 100000 in
set_option maxHeartbeats 4000000 in
theorem bX12_rounds_120 {X : Xt} {σf : St} {r : Unit} (hX1 : X.2.2.1 = σf) (hX2 : X.2.2.2 = .inl (none)) {σ : St} {x0 : Nat} (hf : fX12_rounds_120 σ x0 = some (σf, r)) : G MtX12_rounds X σ 120 [(0, rv x0)] [] := by
  unfold fX12_rounds_120 at hf
  refine g_iconst (v := 0) dX12_rounds_120 (by decide) ?_
  exact bX12_rounds_121 hX1 hX2 hf

set_option maxRecDepth 100000 in
set_option maxHeartbeats 4000000 in
theorem bX12_rounds_70 {X : Xt} {σf : St} {r : Unit} (hX1 : X.2.2.1 = σf) (hX2 : X.2.2.2 = .inl (none)) {σ : St} {x0 : Nat} {x1 : Int32} {y0 : Int32} (hf : fX12_rounds_70 σ x0 x1 y0 = some (σf, r)) : G MtX12_rounds X σ 70 [(0, rv x0), (1, .int x1)] [.int y0] := by
  unfold fX12_rounds_70 at hf
  refine g_istore_n (i := 3) (L' := [(3, .int y0), (0, rv x0), (1, .int x1)]) dX12_rounds_70 rfl (Nat.le_of_ble_eq_true rfl) rfl ?_
  refine g_iload_n (j := 2) dX12_rounds_71 rfl rfl ?_
  refine g_bipush (v := 14) dX12_rounds_72 (by decide) ?_
  refine g_icmp_ne (tgt := 122) dX12_rounds_74 (by decide) (fun c1 => ?_) (fun c1 => ?_)
  · rw [if_neg c1] at hf
    refine g_sub (L' := [(0, rv x0), (3, .int y0)]) [1, 0] rfl ?_
    exact bX12_rounds_122 hX1 hX2 hf
  · rw [if_pos c1] at hf
    refine g_aload_n (j := 1) dX12_rounds_77 rfl rfl ?_
    refine g_bipush (v := 10) dX12_rounds_78 (by decide) ?_
    refine g_iconst (v := 2) dX12_rounds_80 (by decide) ?_
    obtain ⟨_, h4, hf⟩ := ob hf
    obtain ⟨σ2, v3, eσ2, hf⟩ := cb_el hf
    refine g_callV_v dX12_rounds_81 (wX12_times _ eσ2) (okX12_times _ (by decide) (by decide)) (ckK_el h4) hc16 t_1947 t_1949 s_X12_times rfl (Nat.le_trans (cat_le _) (Nat.le_of_ble_eq_true rfl)) rfl ?_
    refine g_aload_n (j := 1) dX12_rounds_84 rfl rfl ?_
    refine g_bipush (v := 10) dX12_rounds_85 (by decide) ?_
    refine g_iconst (v := 1) dX12_rounds_87 (by decide) ?_
    obtain ⟨_, h7, hf⟩ := ob hf
    obtain ⟨σ5, v6, eσ5, hf⟩ := cb_el hf
    refine g_callV_i dX12_rounds_88 (wX12_compares _ eσ5) (okX12_compares _ (by decide) (by decide)) (ckK_el h7) hc16 t_1935 t_1937 s_X12_compares rfl (Nat.le_trans (cat_le _) (Nat.le_of_ble_eq_true rfl)) rfl ?_
    refine g_istore (i := 4) (L' := [(4, .int v6), (3, .int y0), (0, rv x0), (1, .int x1)]) dX12_rounds_91 (Nat.le_of_ble_eq_true rfl) rfl ?_
    refine g_iload (j := 0) dX12_rounds_93 rfl ?_
    refine g_if_gt (tgt := 116) dX12_rounds_95 (by decide) (fun c8 => ?_) (fun c8 => ?_)
    · rw [if_pos c8] at hf
      refine g_sub (L' := [(0, rv x0)]) [2] rfl ?_
      exact bX12_rounds_116 hX1 hX2 hf
    · rw [if_neg c8] at hf
      refine g_iload (j := 0) dX12_rounds_98 rfl ?_
      refine g_if_ne (tgt := 120) dX12_rounds_100 (by decide) (fun c9 => ?_) (fun c9 => ?_)
      · rw [if_neg c9] at hf
        refine g_sub (L' := [(0, rv x0)]) [2] rfl ?_
        exact bX12_rounds_120 hX1 hX2 hf
      · rw [if_pos c9] at hf
        refine g_aload_n (j := 2) dX12_rounds_103 rfl rfl ?_
        refine g_bipush (v := 6) dX12_rounds_104 (by decide) ?_
        refine g_iconst (v := 0) dX12_rounds_106 (by decide) ?_
        obtain ⟨_, h12, hf⟩ := ob hf
        obtain ⟨σ10, v11, eσ10, hf⟩ := cb_el hf
        refine g_callV_i dX12_rounds_107 (wX12_limb _ eσ10) (okX12_limb _ (by decide) (by decide)) (ckK_el h12) hc16 t_1963 t_1965 s_X12_limb rfl (Nat.le_trans (cat_le _) (Nat.le_of_ble_eq_true rfl)) rfl ?_
        refine g_iconst (v := 2) dX12_rounds_110 (by decide) ?_
        refine g_irem dX12_rounds_111 (by decide) ?_
        refine g_iconst (v := 1) dX12_rounds_112 (by decide) ?_
        refine g_icmp_ne (tgt := 120) dX12_rounds_113 (by decide) (fun c13 => ?_) (fun c13 => ?_)
        · rw [if_neg c13] at hf
          refine g_sub (L' := [(0, rv x0)]) [2] rfl ?_
          exact bX12_rounds_120 hX1 hX2 hf
        · rw [if_pos c13] at hf
          refine g_sub (L' := [(0, rv x0)]) [2] rfl ?_
          exact bX12_rounds_116 hX1 hX2 hf

set_option maxRecDepth 100000 in
set_option maxHeartbeats 4000000 in
theorem bX12_rounds_65 {X : Xt} {σf : St} {r : Unit} (hX1 : X.2.2.1 = σf) (hX2 : X.2.2.2 = .inl (none)) {σ : St} {x0 : Nat} {x1 : Int32} (hf : fX12_rounds_65 σ x0 x1 = some (σf, r)) : G MtX12_rounds X σ 65 [(0, rv x0), (1, .int x1)] [] := by
  unfold fX12_rounds_65 at hf
  refine g_iconst (v := 1) dX12_rounds_65 (by decide) ?_
  refine g_goto (tgt := 70) dX12_rounds_66 (by decide) ?_
  exact bX12_rounds_70 hX1 hX2 hf

set_option maxRecDepth 100000 in
set_option maxHeartbeats 4000000 in
theorem bX12_rounds_69 {X : Xt} {σf : St} {r : Unit} (hX1 : X.2.2.1 = σf) (hX2 : X.2.2.2 = .inl (none)) {σ : St} {x0 : Nat} {x1 : Int32} (hf : fX12_rounds_69 σ x0 x1 = some (σf, r)) : G MtX12_rounds X σ 69 [(0, rv x0), (1, .int x1)] [] := by
  unfold fX12_rounds_69 at hf
  refine g_iconst (v := 0) dX12_rounds_69 (by decide) ?_
  exact bX12_rounds_70 hX1 hX2 hf

set_option maxRecDepth 100000 in
set_option maxHeartbeats 4000000 in
theorem wX12_rounds (l : Launch) {σ σf : St} {x0 : Nat} {x1 : Int32} {x2 : Int32} {r : Unit} (hf : fX12_rounds σ x0 x1 x2 = some (σf, r)) : Con MtX12_rounds yX12_rounds l σ [rv x0, .int x1, .int x2] σf (none) := by
  refine Con.of (by decide +kernel) rfl (fun h => absurd (show false = true from h) (by decide)) (by simp only [sl_n, sl_r, sl_i, sl_l]; exact Nat.le_of_ble_eq_true rfl) ?_
  rw [show lv_args 0 [rv x0, .int x1, .int x2] = [(0, rv x0), (1, .int x1), (2, .int x2)] by simp only [la_n, la_r, la_i, la_l] <;> rfl]
  have hX1 : ((l, σ, σf, .inl (none)) : Xt).2.2.1 = σf := rfl
  have hX2 : ((l, σ, σf, .inl (none)) : Xt).2.2.2 = .inl (none) := rfl
  unfold fX12_rounds at hf
  refine g_aload_n (j := 0) dX12_rounds_0 rfl rfl ?_
  refine g_iconst (v := 0) dX12_rounds_1 (by decide) ?_
  refine g_iload_n (j := 2) dX12_rounds_2 rfl rfl ?_
  refine g_iconst (v := 0) dX12_rounds_3 (by decide) ?_
  obtain ⟨_, h3, hf⟩ := ob hf
  obtain ⟨σ1, v2, eσ1, hf⟩ := cb_el hf
  refine g_callV_v dX12_rounds_4 (wX12_loads _ eσ1) (okX12_loads _ (by decide) (by decide)) (ckK_el h3) hc16 t_2439 t_2441 s_X12_loads rfl (Nat.le_trans (cat_le _) (Nat.le_of_ble_eq_true rfl)) rfl ?_
  refine g_aload_n (j := 0) dX12_rounds_7 rfl rfl ?_
  refine g_iconst (v := 1) dX12_rounds_8 (by decide) ?_
  refine g_iload_n (j := 2) dX12_rounds_9 rfl rfl ?_
  refine g_iconst (v := 1) dX12_rounds_10 (by decide) ?_
  obtain ⟨_, h6, hf⟩ := ob hf
  obtain ⟨σ4, v5, eσ4, hf⟩ := cb_el hf
  refine g_callV_v dX12_rounds_11 (wX12_loads _ eσ4) (okX12_loads _ (by decide) (by decide)) (ckK_el h6) hc16 t_2439 t_2441 s_X12_loads rfl (Nat.le_trans (cat_le _) (Nat.le_of_ble_eq_true rfl)) rfl ?_
  refine g_aload_n (j := 0) dX12_rounds_14 rfl rfl ?_
  refine g_iconst (v := 0) dX12_rounds_15 (by decide) ?_
  refine g_iconst (v := 1) dX12_rounds_16 (by decide) ?_
  obtain ⟨_, h9, hf⟩ := ob hf
  obtain ⟨σ7, v8, eσ7, hf⟩ := cb_el hf
  refine g_callV_v dX12_rounds_17 (wX12_divides _ eσ7) (okX12_divides _ (by decide) (by decide)) (ckK_el h9) hc16 t_1931 t_1933 s_X12_divides rfl (Nat.le_trans (cat_le _) (Nat.le_of_ble_eq_true rfl)) rfl ?_
  refine g_aload_n (j := 0) dX12_rounds_20 rfl rfl ?_
  refine g_bipush (v := 6) dX12_rounds_21 (by decide) ?_
  refine g_bipush (v := 9) dX12_rounds_23 (by decide) ?_
  obtain ⟨_, h12, hf⟩ := ob hf
  obtain ⟨σ10, v11, eσ10, hf⟩ := cb_el hf
  refine g_callV_v dX12_rounds_25 (wX12_copies _ eσ10) (okX12_copies _ (by decide) (by decide)) (ckK_el h12) hc16 t_1927 t_1929 s_X12_copies rfl (Nat.le_trans (cat_le _) (Nat.le_of_ble_eq_true rfl)) rfl ?_
  refine g_aload_n (j := 0) dX12_rounds_28 rfl rfl ?_
  obtain ⟨v13, ev13, hf⟩ := ob hf
  refine g_getF dX12_rounds_29 ev13 t_1969 hin16 hc16 (by decide) rfl ?_
  refine g_bipush (v := 10) dX12_rounds_32 (by decide) ?_
  obtain ⟨v14, ev14, hf⟩ := ob hf
  refine g_iald dX12_rounds_34 ev14 ?_
  refine g_if_le (tgt := 69) dX12_rounds_35 (by decide) (fun c15 => ?_) (fun c15 => ?_)
  · rw [if_pos c15] at hf
    refine g_sub (L' := [(0, rv x0), (1, .int x1)]) [0, 1] rfl ?_
    exact bX12_rounds_69 hX1 hX2 hf
  · rw [if_neg c15] at hf
    refine g_iload_n (j := 1) dX12_rounds_38 rfl rfl ?_
    refine g_bipush (v := 12) dX12_rounds_39 (by decide) ?_
    refine g_icmp_ne (tgt := 56) dX12_rounds_41 (by decide) (fun c16 => ?_) (fun c16 => ?_)
    · rw [if_neg c16] at hf
      refine g_aload_n (j := 0) dX12_rounds_56 rfl rfl ?_
      obtain ⟨v17, ev17, hf⟩ := ob hf
      refine g_getF dX12_rounds_57 ev17 t_1970 hin16 hc16 (by decide) rfl ?_
      refine g_iload_n (j := 2) dX12_rounds_60 rfl rfl ?_
      obtain ⟨v18, ev18, hf⟩ := ob hf
      refine g_iald dX12_rounds_61 ev18 ?_
      refine g_if_le (tgt := 69) dX12_rounds_62 (by decide) (fun c19 => ?_) (fun c19 => ?_)
      · rw [if_pos c19] at hf
        refine g_sub (L' := [(0, rv x0), (1, .int x1)]) [0, 1] rfl ?_
        exact bX12_rounds_69 hX1 hX2 hf
      · rw [if_neg c19] at hf
        refine g_sub (L' := [(0, rv x0), (1, .int x1)]) [0, 1] rfl ?_
        exact bX12_rounds_65 hX1 hX2 hf
    · rw [if_pos c16] at hf
      refine g_aload_n (j := 0) dX12_rounds_44 rfl rfl ?_
      obtain ⟨v20, ev20, hf⟩ := ob hf
      refine g_getF dX12_rounds_45 ev20 t_1970 hin16 hc16 (by decide) rfl ?_
      refine g_iload_n (j := 2) dX12_rounds_48 rfl rfl ?_
      obtain ⟨v21, ev21, hf⟩ := ob hf
      refine g_iald dX12_rounds_49 ev21 ?_
      refine g_if_ge (tgt := 69) dX12_rounds_50 (by decide) (fun c22 => ?_) (fun c22 => ?_)
      · rw [if_pos c22] at hf
        refine g_sub (L' := [(0, rv x0), (1, .int x1)]) [0, 1] rfl ?_
        exact bX12_rounds_69 hX1 hX2 hf
      · rw [if_neg c22] at hf
        refine g_goto (tgt := 65) dX12_rounds_53 (by decide) ?_
        refine g_sub (L' := [(0, rv x0), (1, .int x1)]) [0, 1] rfl ?_
        exact bX12_rounds_65 hX1 hX2 hf

theorem okX12_rounds (M : Mt) (h1 : 4 + 1 ≤ M.2.2.2.2.1) (h2 : 8 + (5 + 11) + 168 ≤ M.2.2.2.2.2.1) : CallOk M MtX12_rounds yX12_rounds 2 := ⟨t_2470, h1, h2, ⟨by decide, by decide⟩, by decide +kernel, t_16⟩
abbrev MtX12_order : Mt := (cX12_order, 3, "ExactlySaidModel", (Option.some Jvm.ClassFile.FieldType.int), 4, 152, false)
set_option maxRecDepth 100000 in
set_option maxHeartbeats 4000000 in
theorem wX12_order (l : Launch) {σ σf : St} {x0 : Nat} {x1 : Int32} {x2 : Int32} {r : Int32} (hf : fX12_order σ x0 x1 x2 = some (σf, r)) : Con MtX12_order yX12_order l σ [rv x0, .int x1, .int x2] σf (some (.int r)) := by
  refine Con.of (by decide +kernel) rfl (fun h => absurd (show false = true from h) (by decide)) (by simp only [sl_n, sl_r, sl_i, sl_l]; exact Nat.le_of_ble_eq_true rfl) ?_
  rw [show lv_args 0 [rv x0, .int x1, .int x2] = [(0, rv x0), (1, .int x1), (2, .int x2)] by simp only [la_n, la_r, la_i, la_l] <;> rfl]
  have hX1 : ((l, σ, σf, .inl (some (.int r))) : Xt).2.2.1 = σf := rfl
  have hX2 : ((l, σ, σf, .inl (some (.int r))) : Xt).2.2.2 = .inl (some (.int r)) := rfl
  unfold fX12_order at hf
  refine g_aload_n (j := 0) dX12_order_0 rfl rfl ?_
  obtain ⟨v1, ev1, hf⟩ := ob hf
  refine g_getF dX12_order_1 ev1 t_1970 hin16 hc16 (by decide) rfl ?_
  refine g_iload_n (j := 1) dX12_order_4 rfl rfl ?_
  obtain ⟨v2, ev2, hf⟩ := ob hf
  refine g_iald dX12_order_5 ev2 ?_
  refine g_aload_n (j := 0) dX12_order_6 rfl rfl ?_
  obtain ⟨v3, ev3, hf⟩ := ob hf
  refine g_getF dX12_order_7 ev3 t_1970 hin16 hc16 (by decide) rfl ?_
  refine g_iload_n (j := 2) dX12_order_10 rfl rfl ?_
  obtain ⟨v4, ev4, hf⟩ := ob hf
  refine g_iald dX12_order_11 ev4 ?_
  refine g_icmp_eq (tgt := 36) dX12_order_12 (by decide) (fun c5 => ?_) (fun c5 => ?_)
  · rw [if_pos c5] at hf
    refine g_aload_n (j := 0) dX12_order_36 rfl rfl ?_
    refine g_iload_n (j := 1) dX12_order_37 rfl rfl ?_
    refine g_iload_n (j := 2) dX12_order_38 rfl rfl ?_
    obtain ⟨_, h8, hf⟩ := ob hf
    obtain ⟨σ6, v7, eσ6, hf⟩ := cb_el hf
    refine g_callV_v dX12_order_39 (wX12_loadsBoth _ eσ6) (okX12_loadsBoth _ (by decide) (by decide)) (ckK_el h8) hc16 t_2435 t_2437 s_X12_loadsBoth rfl (Nat.le_trans (cat_le _) (Nat.le_of_ble_eq_true rfl)) rfl ?_
    refine g_aload_n (j := 0) dX12_order_42 rfl rfl ?_
    refine g_iconst (v := 4) dX12_order_43 (by decide) ?_
    refine g_iconst (v := 0) dX12_order_44 (by decide) ?_
    refine g_iconst (v := 3) dX12_order_45 (by decide) ?_
    obtain ⟨_, h11, hf⟩ := ob hf
    obtain ⟨σ9, v10, eσ9, hf⟩ := cb_el hf
    refine g_callV_v dX12_order_46 (wX12_multiplies _ eσ9) (okX12_multiplies _ (by decide) (by decide)) (ckK_el h11) hc16 t_2310 t_2312 s_X12_multiplies rfl (Nat.le_trans (cat_le _) (Nat.le_of_ble_eq_true rfl)) rfl ?_
    refine g_aload_n (j := 0) dX12_order_49 rfl rfl ?_
    refine g_iconst (v := 5) dX12_order_50 (by decide) ?_
    refine g_iconst (v := 2) dX12_order_51 (by decide) ?_
    refine g_iconst (v := 1) dX12_order_52 (by decide) ?_
    obtain ⟨_, h14, hf⟩ := ob hf
    obtain ⟨σ12, v13, eσ12, hf⟩ := cb_el hf
    refine g_callV_v dX12_order_53 (wX12_multiplies _ eσ12) (okX12_multiplies _ (by decide) (by decide)) (ckK_el h14) hc16 t_2310 t_2312 s_X12_multiplies rfl (Nat.le_trans (cat_le _) (Nat.le_of_ble_eq_true rfl)) rfl ?_
    refine g_aload_n (j := 0) dX12_order_56 rfl rfl ?_
    obtain ⟨v15, ev15, hf⟩ := ob hf
    refine g_getF dX12_order_57 ev15 t_1970 hin16 hc16 (by decide) rfl ?_
    refine g_iload_n (j := 1) dX12_order_60 rfl rfl ?_
    obtain ⟨v16, ev16, hf⟩ := ob hf
    refine g_iald dX12_order_61 ev16 ?_
    refine g_aload_n (j := 0) dX12_order_62 rfl rfl ?_
    refine g_iconst (v := 4) dX12_order_63 (by decide) ?_
    refine g_iconst (v := 5) dX12_order_64 (by decide) ?_
    obtain ⟨_, h19, hf⟩ := ob hf
    obtain ⟨σ17, v18, eσ17, hf⟩ := cb_el hf
    refine g_callV_i dX12_order_65 (wX12_compares _ eσ17) (okX12_compares _ (by decide) (by decide)) (ckK_el h19) hc16 t_1935 t_1937 s_X12_compares rfl (Nat.le_trans (cat_le _) (Nat.le_of_ble_eq_true rfl)) rfl ?_
    refine g_imul dX12_order_68 ?_
    exact g_iret dX12_order_69 rfl rfl hX2 hX1 hf
  · rw [if_neg c5] at hf
    refine g_aload_n (j := 0) dX12_order_15 rfl rfl ?_
    obtain ⟨v20, ev20, hf⟩ := ob hf
    refine g_getF dX12_order_16 ev20 t_1970 hin16 hc16 (by decide) rfl ?_
    refine g_iload_n (j := 1) dX12_order_19 rfl rfl ?_
    obtain ⟨v21, ev21, hf⟩ := ob hf
    refine g_iald dX12_order_20 ev21 ?_
    refine g_aload_n (j := 0) dX12_order_21 rfl rfl ?_
    obtain ⟨v22, ev22, hf⟩ := ob hf
    refine g_getF dX12_order_22 ev22 t_1970 hin16 hc16 (by decide) rfl ?_
    refine g_iload_n (j := 2) dX12_order_25 rfl rfl ?_
    obtain ⟨v23, ev23, hf⟩ := ob hf
    refine g_iald dX12_order_26 ev23 ?_
    refine g_icmp_ge (tgt := 34) dX12_order_27 (by decide) (fun c24 => ?_) (fun c24 => ?_)
    · rw [if_pos c24] at hf
      refine g_iconst (v := 1) dX12_order_34 (by decide) ?_
      exact g_iret dX12_order_35 rfl rfl hX2 hX1 hf
    · rw [if_neg c24] at hf
      refine g_iconst (v := (-1)) dX12_order_30 (by decide) ?_
      refine g_goto (tgt := 35) dX12_order_31 (by decide) ?_
      exact g_iret dX12_order_35 rfl rfl hX2 hX1 hf

theorem okX12_order (M : Mt) (h1 : 4 + 1 ≤ M.2.2.2.2.1) (h2 : 8 + (3 + 11) + 152 ≤ M.2.2.2.2.2.1) : CallOk M MtX12_order yX12_order 2 := ⟨t_2474, h1, h2, ⟨by decide, by decide⟩, by decide +kernel, t_16⟩
abbrev MtX12_copiesPart : Mt := (cX12_copiesPart, 3, "ExactlySaidModel", (Option.some Jvm.ClassFile.FieldType.int), 3, 130, false)
set_option maxRecDepth 100000 in
set_option maxHeartbeats 4000000 in
theorem bX12_copiesPart_57 {X : Xt} {σf : St} {r : Int32} (hX1 : X.2.2.1 = σf) (hX2 : X.2.2.2 = .inl (some (.int r))) {σ : St} (hf : fX12_copiesPart_57 σ  = some (σf, r)) : G MtX12_copiesPart X σ 57 [] [] := by
  unfold fX12_copiesPart_57 at hf
  refine g_iconst (v := 1) dX12_copiesPart_57 (by decide) ?_
  refine g_goto (tgt := 84) dX12_copiesPart_58 (by decide) ?_
  exact g_iret dX12_copiesPart_84 rfl rfl hX2 hX1 hf

set_option maxRecDepth 100000 in
set_option maxHeartbeats 4000000 in
theorem bX12_copiesPart_45 {X : Xt} {σf : St} {r : Int32} (hX1 : X.2.2.1 = σf) (hX2 : X.2.2.2 = .inl (some (.int r))) {σ : St} {x0 : Nat} {x1 : Int32} {x2 : Int32} (hf : fX12_copiesPart_45 σ x0 x1 x2 = some (σf, r)) : G MtX12_copiesPart X σ 45 [(0, rv x0), (1, .int x1), (2, .int x2)] [] := by
  unfold fX12_copiesPart_45 at hf
  refine g_iload_n (j := 1) dX12_copiesPart_45 rfl rfl ?_
  refine g_bipush (v := 15) dX12_copiesPart_46 (by decide) ?_
  refine g_icmp_eq (tgt := 57) dX12_copiesPart_48 (by decide) (fun c1 => ?_) (fun c1 => ?_)
  · rw [if_pos c1] at hf
    refine g_sub (L' := []) [] rfl ?_
    exact bX12_copiesPart_57 hX1 hX2 hf
  · rw [if_neg c1] at hf
    refine g_iload_n (j := 1) dX12_copiesPart_51 rfl rfl ?_
    refine g_bipush (v := 18) dX12_copiesPart_52 (by decide) ?_
    refine g_icmp_ne (tgt := 61) dX12_copiesPart_54 (by decide) (fun c2 => ?_) (fun c2 => ?_)
    · rw [if_neg c2] at hf
      refine g_iload_n (j := 1) dX12_copiesPart_61 rfl rfl ?_
      refine g_bipush (v := 8) dX12_copiesPart_62 (by decide) ?_
      refine g_icmp_ne (tgt := 78) dX12_copiesPart_64 (by decide) (fun c3 => ?_) (fun c3 => ?_)
      · rw [if_neg c3] at hf
        refine g_aload_n (j := 0) dX12_copiesPart_78 rfl rfl ?_
        obtain ⟨v4, ev4, hf⟩ := ob hf
        refine g_getF dX12_copiesPart_79 ev4 t_1970 hin16 hc16 (by decide) rfl ?_
        refine g_iload_n (j := 2) dX12_copiesPart_82 rfl rfl ?_
        obtain ⟨v5, ev5, hf⟩ := ob hf
        refine g_iald dX12_copiesPart_83 ev5 ?_
        exact g_iret dX12_copiesPart_84 rfl rfl hX2 hX1 hf
      · rw [if_pos c3] at hf
        refine g_iconst (v := 0) dX12_copiesPart_67 (by decide) ?_
        refine g_aload_n (j := 0) dX12_copiesPart_68 rfl rfl ?_
        obtain ⟨v6, ev6, hf⟩ := ob hf
        refine g_getF dX12_copiesPart_69 ev6 t_1970 hin16 hc16 (by decide) rfl ?_
        refine g_iload_n (j := 2) dX12_copiesPart_72 rfl rfl ?_
        obtain ⟨v7, ev7, hf⟩ := ob hf
        refine g_iald dX12_copiesPart_73 ev7 ?_
        refine g_isub dX12_copiesPart_74 ?_
        refine g_goto (tgt := 84) dX12_copiesPart_75 (by decide) ?_
        exact g_iret dX12_copiesPart_84 rfl rfl hX2 hX1 hf
    · rw [if_pos c2] at hf
      refine g_sub (L' := []) [] rfl ?_
      exact bX12_copiesPart_57 hX1 hX2 hf

set_option maxRecDepth 100000 in
set_option maxHeartbeats 4000000 in
theorem bX12_copiesPart_38 {X : Xt} {σf : St} {r : Int32} (hX1 : X.2.2.1 = σf) (hX2 : X.2.2.2 = .inl (some (.int r))) {σ : St} {x0 : Nat} {x1 : Int32} {x2 : Int32} (hf : fX12_copiesPart_38 σ x0 x1 x2 = some (σf, r)) : G MtX12_copiesPart X σ 38 [(0, rv x0), (1, .int x1), (2, .int x2)] [] := by
  unfold fX12_copiesPart_38 at hf
  refine g_aload_n (j := 0) dX12_copiesPart_38 rfl rfl ?_
  refine g_bipush (v := 7) dX12_copiesPart_39 (by decide) ?_
  refine g_iconst (v := 1) dX12_copiesPart_41 (by decide) ?_
  obtain ⟨_, h3, hf⟩ := ob hf
  obtain ⟨σ1, v2, eσ1, hf⟩ := cb_el hf
  refine g_callV_v dX12_copiesPart_42 (wX12_puts _ eσ1) (okX12_puts _ (by decide) (by decide)) (ckK_el h3) hc16 t_1911 t_1913 s_X12_puts rfl (Nat.le_trans (cat_le _) (Nat.le_of_ble_eq_true rfl)) rfl ?_
  exact bX12_copiesPart_45 hX1 hX2 hf

set_option maxRecDepth 100000 in
set_option maxHeartbeats 4000000 in
theorem bX12_copiesPart_15 {X : Xt} {σf : St} {r : Int32} (hX1 : X.2.2.1 = σf) (hX2 : X.2.2.2 = .inl (some (.int r))) {σ : St} {x0 : Nat} {x1 : Int32} {x2 : Int32} {y0 : Nat} {y1 : Int32} {y2 : Int32} {y3 : Int32} (hf : fX12_copiesPart_15 σ x0 x1 x2 y0 y1 y2 y3 = some (σf, r)) : G MtX12_copiesPart X σ 15 [(0, rv x0), (1, .int x1), (2, .int x2)] [.int y3, .int y2, .int y1, rv y0] := by
  unfold fX12_copiesPart_15 at hf
  obtain ⟨_, h3, hf⟩ := ob hf
  obtain ⟨σ1, v2, eσ1, hf⟩ := cb_el hf
  refine g_callV_v dX12_copiesPart_15 (wX12_loads _ eσ1) (okX12_loads _ (by decide) (by decide)) (ckK_el h3) hc16 t_2439 t_2441 s_X12_loads rfl (Nat.le_trans (cat_le _) (Nat.le_of_ble_eq_true rfl)) rfl ?_
  refine g_aload_n (j := 0) dX12_copiesPart_18 rfl rfl ?_
  refine g_bipush (v := 7) dX12_copiesPart_19 (by decide) ?_
  refine g_iload_n (j := 2) dX12_copiesPart_21 rfl rfl ?_
  refine g_iconst (v := 1) dX12_copiesPart_22 (by decide) ?_
  obtain ⟨_, h6, hf⟩ := ob hf
  obtain ⟨σ4, v5, eσ4, hf⟩ := cb_el hf
  refine g_callV_v dX12_copiesPart_23 (wX12_loads _ eσ4) (okX12_loads _ (by decide) (by decide)) (ckK_el h6) hc16 t_2439 t_2441 s_X12_loads rfl (Nat.le_trans (cat_le _) (Nat.le_of_ble_eq_true rfl)) rfl ?_
  refine g_iload_n (j := 1) dX12_copiesPart_26 rfl rfl ?_
  refine g_bipush (v := 17) dX12_copiesPart_27 (by decide) ?_
  refine g_icmp_eq (tgt := 38) dX12_copiesPart_29 (by decide) (fun c7 => ?_) (fun c7 => ?_)
  · rw [if_pos c7] at hf
    exact bX12_copiesPart_38 hX1 hX2 hf
  · rw [if_neg c7] at hf
    refine g_iload_n (j := 1) dX12_copiesPart_32 rfl rfl ?_
    refine g_bipush (v := 18) dX12_copiesPart_33 (by decide) ?_
    refine g_icmp_ne (tgt := 45) dX12_copiesPart_35 (by decide) (fun c8 => ?_) (fun c8 => ?_)
    · rw [if_neg c8] at hf
      exact bX12_copiesPart_45 hX1 hX2 hf
    · rw [if_pos c8] at hf
      exact bX12_copiesPart_38 hX1 hX2 hf

set_option maxRecDepth 100000 in
set_option maxHeartbeats 4000000 in
theorem wX12_copiesPart (l : Launch) {σ σf : St} {x0 : Nat} {x1 : Int32} {x2 : Int32} {r : Int32} (hf : fX12_copiesPart σ x0 x1 x2 = some (σf, r)) : Con MtX12_copiesPart yX12_copiesPart l σ [rv x0, .int x1, .int x2] σf (some (.int r)) := by
  refine Con.of (by decide +kernel) rfl (fun h => absurd (show false = true from h) (by decide)) (by simp only [sl_n, sl_r, sl_i, sl_l]; exact Nat.le_of_ble_eq_true rfl) ?_
  rw [show lv_args 0 [rv x0, .int x1, .int x2] = [(0, rv x0), (1, .int x1), (2, .int x2)] by simp only [la_n, la_r, la_i, la_l] <;> rfl]
  have hX1 : ((l, σ, σf, .inl (some (.int r))) : Xt).2.2.1 = σf := rfl
  have hX2 : ((l, σ, σf, .inl (some (.int r))) : Xt).2.2.2 = .inl (some (.int r)) := rfl
  unfold fX12_copiesPart at hf
  refine g_aload_n (j := 0) dX12_copiesPart_0 rfl rfl ?_
  refine g_bipush (v := 6) dX12_copiesPart_1 (by decide) ?_
  refine g_iload_n (j := 2) dX12_copiesPart_3 rfl rfl ?_
  refine g_iload_n (j := 1) dX12_copiesPart_4 rfl rfl ?_
  refine g_bipush (v := 18) dX12_copiesPart_5 (by decide) ?_
  refine g_icmp_ne (tgt := 14) dX12_copiesPart_7 (by decide) (fun c1 => ?_) (fun c1 => ?_)
  · rw [if_neg c1] at hf
    refine g_iconst (v := 0) dX12_copiesPart_14 (by decide) ?_
    exact bX12_copiesPart_15 hX1 hX2 hf
  · rw [if_pos c1] at hf
    refine g_iconst (v := 1) dX12_copiesPart_10 (by decide) ?_
    refine g_goto (tgt := 15) dX12_copiesPart_11 (by decide) ?_
    exact bX12_copiesPart_15 hX1 hX2 hf

theorem okX12_copiesPart (M : Mt) (h1 : 3 + 1 ≤ M.2.2.2.2.1) (h2 : 8 + (3 + 11) + 130 ≤ M.2.2.2.2.2.1) : CallOk M MtX12_copiesPart yX12_copiesPart 2 := ⟨t_2478, h1, h2, ⟨by decide, by decide⟩, by decide +kernel, t_16⟩
abbrev MtX12_works : Mt := (cX12_works, 4, "ExactlySaidModel", (Option.some Jvm.ClassFile.FieldType.int), 6, 213, false)
set_option maxRecDepth 100000 in
set_option maxHeartbeats 4000000 in
theorem bX12_works_16 {X : Xt} {σf : St} {r : Int32} (hX1 : X.2.2.1 = σf) (hX2 : X.2.2.2 = .inl (some (.int r))) {σ : St} {x0 : Nat} {x1 : Int32} {x2 : Int32} {x3 : Int32} (hf : fX12_works_16 σ x0 x1 x2 x3 = some (σf, r)) : G MtX12_works X σ 16 [(0, rv x0), (1, .int x1), (2, .int x2), (3, .int x3)] [] := by
  unfold fX12_works_16 at hf
  refine g_aload_n (j := 0) dX12_works_16 rfl rfl ?_
  refine g_iload_n (j := 1) dX12_works_17 rfl rfl ?_
  refine g_iload_n (j := 2) dX12_works_18 rfl rfl ?_
  refine g_iload_n (j := 3) dX12_works_19 rfl rfl ?_
  obtain ⟨_, h3, hf⟩ := ob hf
  obtain ⟨σ1, v2, eσ1, hf⟩ := cb_el hf
  refine g_callV_i dX12_works_20 (wX12_sums _ eσ1) (okX12_sums _ (by decide) (by decide)) (ckK_el h3) hc16 t_2431 t_2433 s_X12_sums rfl (Nat.le_trans (cat_le _) (Nat.le_of_ble_eq_true rfl)) rfl ?_
  exact g_iret dX12_works_23 rfl rfl hX2 hX1 hf

set_option maxRecDepth 100000 in
set_option maxHeartbeats 4000000 in
theorem bX12_works_34 {X : Xt} {σf : St} {r : Int32} (hX1 : X.2.2.1 = σf) (hX2 : X.2.2.2 = .inl (some (.int r))) {σ : St} {x0 : Nat} {x1 : Int32} {x2 : Int32} {x3 : Int32} (hf : fX12_works_34 σ x0 x1 x2 x3 = some (σf, r)) : G MtX12_works X σ 34 [(0, rv x0), (1, .int x1), (2, .int x2), (3, .int x3)] [] := by
  unfold fX12_works_34 at hf
  refine g_aload_n (j := 0) dX12_works_34 rfl rfl ?_
  refine g_iload_n (j := 1) dX12_works_35 rfl rfl ?_
  refine g_iload_n (j := 2) dX12_works_36 rfl rfl ?_
  refine g_iload_n (j := 3) dX12_works_37 rfl rfl ?_
  obtain ⟨_, h3, hf⟩ := ob hf
  obtain ⟨σ1, v2, eσ1, hf⟩ := cb_el hf
  refine g_callV_i dX12_works_38 (wX12_products _ eσ1) (okX12_products _ (by decide) (by decide)) (ckK_el h3) hc16 t_2447 t_2449 s_X12_products rfl (Nat.le_trans (cat_le _) (Nat.le_of_ble_eq_true rfl)) rfl ?_
  exact g_iret dX12_works_41 rfl rfl hX2 hX1 hf

set_option maxRecDepth 100000 in
set_option maxHeartbeats 4000000 in
theorem bX12_works_95 {X : Xt} {σf : St} {r : Int32} (hX1 : X.2.2.1 = σf) (hX2 : X.2.2.2 = .inl (some (.int r))) {σ : St} {x0 : Nat} {x1 : Int32} {x2 : Int32} {x3 : Int32} (hf : fX12_works_95 σ x0 x1 x2 x3 = some (σf, r)) : G MtX12_works X σ 95 [(0, rv x0), (1, .int x1), (2, .int x2), (3, .int x3)] [] := by
  unfold fX12_works_95 at hf
  refine g_aload_n (j := 0) dX12_works_95 rfl rfl ?_
  refine g_iload_n (j := 1) dX12_works_96 rfl rfl ?_
  refine g_iload_n (j := 2) dX12_works_97 rfl rfl ?_
  refine g_iload_n (j := 3) dX12_works_98 rfl rfl ?_
  obtain ⟨_, h3, hf⟩ := ob hf
  obtain ⟨σ1, v2, eσ1, hf⟩ := cb_el hf
  refine g_callV_i dX12_works_99 (wX12_factors _ eσ1) (okX12_factors _ (by decide) (by decide)) (ckK_el h3) hc16 t_2463 t_2465 s_X12_factors rfl (Nat.le_trans (cat_le _) (Nat.le_of_ble_eq_true rfl)) rfl ?_
  exact g_iret dX12_works_102 rfl rfl hX2 hX1 hf

set_option maxRecDepth 100000 in
set_option maxHeartbeats 4000000 in
theorem bX12_works_121 {X : Xt} {σf : St} {r : Int32} (hX1 : X.2.2.1 = σf) (hX2 : X.2.2.2 = .inl (some (.int r))) {σ : St} {x0 : Nat} {x1 : Int32} {x2 : Int32} (hf : fX12_works_121 σ x0 x1 x2 = some (σf, r)) : G MtX12_works X σ 121 [(0, rv x0), (1, .int x1), (2, .int x2)] [] := by
  unfold fX12_works_121 at hf
  refine g_aload_n (j := 0) dX12_works_121 rfl rfl ?_
  refine g_iload_n (j := 1) dX12_works_122 rfl rfl ?_
  refine g_iload_n (j := 2) dX12_works_123 rfl rfl ?_
  obtain ⟨_, h3, hf⟩ := ob hf
  obtain ⟨σ1, v2, eσ1, hf⟩ := cb_el hf
  refine g_callV_v dX12_works_124 (wX12_rounds _ eσ1) (okX12_rounds _ (by decide) (by decide)) (ckK_el h3) hc16 t_2467 t_2469 s_X12_rounds rfl (Nat.le_trans (cat_le _) (Nat.le_of_ble_eq_true rfl)) rfl ?_
  refine g_aload_n (j := 0) dX12_works_127 rfl rfl ?_
  obtain ⟨v4, ev4, hf⟩ := ob hf
  refine g_getF dX12_works_128 ev4 t_1970 hin16 hc16 (by decide) rfl ?_
  refine g_iload_n (j := 2) dX12_works_131 rfl rfl ?_
  obtain ⟨v5, ev5, hf⟩ := ob hf
  refine g_iald dX12_works_132 ev5 ?_
  exact g_iret dX12_works_133 rfl rfl hX2 hX1 hf

set_option maxRecDepth 100000 in
set_option maxHeartbeats 4000000 in
theorem bX12_works_181 {X : Xt} {σf : St} {r : Int32} (hX1 : X.2.2.1 = σf) (hX2 : X.2.2.2 = .inl (some (.int r))) {σ : St} {y0 : Nat} {y1 : Int32} {y2 : Int32} (hf : fX12_works_181 σ y0 y1 y2 = some (σf, r)) : G MtX12_works X σ 181 [] [.int y2, .int y1, rv y0] := by
  unfold fX12_works_181 at hf
  obtain ⟨_, h3, hf⟩ := ob hf
  obtain ⟨σ1, v2, eσ1, hf⟩ := cb_el hf
  refine g_callV_i dX12_works_181 (wX12_copiesPart _ eσ1) (okX12_copiesPart _ (by decide) (by decide)) (ckK_el h3) hc16 t_2475 t_2477 s_X12_copiesPart rfl (Nat.le_trans (cat_le _) (Nat.le_of_ble_eq_true rfl)) rfl ?_
  exact g_iret dX12_works_184 rfl rfl hX2 hX1 hf

set_option maxRecDepth 100000 in
set_option maxHeartbeats 4000000 in
theorem bX12_works_173 {X : Xt} {σf : St} {r : Int32} (hX1 : X.2.2.1 = σf) (hX2 : X.2.2.2 = .inl (some (.int r))) {σ : St} {x2 : Int32} {x3 : Int32} {y0 : Nat} {y1 : Int32} {y2 : Int32} {y3 : Int32} (hf : fX12_works_173 σ x2 x3 y0 y1 y2 y3 = some (σf, r)) : G MtX12_works X σ 173 [(2, .int x2), (3, .int x3)] [.int y3, .int y2, .int y1, rv y0] := by
  unfold fX12_works_173 at hf
  refine g_icmp_ne (tgt := 180) dX12_works_173 (by decide) (fun c1 => ?_) (fun c1 => ?_)
  · rw [if_neg c1] at hf
    refine g_iload_n (j := 1) dX12_works_180 rfl rfl ?_
    refine g_sub (L' := []) [] rfl ?_
    exact bX12_works_181 hX1 hX2 hf
  · rw [if_pos c1] at hf
    refine g_iload_n (j := 0) dX12_works_176 rfl rfl ?_
    refine g_goto (tgt := 181) dX12_works_177 (by decide) ?_
    refine g_sub (L' := []) [] rfl ?_
    exact bX12_works_181 hX1 hX2 hf

set_option maxRecDepth 100000 in
set_option maxHeartbeats 4000000 in
theorem bX12_works_162 {X : Xt} {σf : St} {r : Int32} (hX1 : X.2.2.1 = σf) (hX2 : X.2.2.2 = .inl (some (.int r))) {σ : St} {x1 : Int32} {x2 : Int32} {x3 : Int32} {y0 : Nat} {y1 : Int32} {y2 : Int32} (hf : fX12_works_162 σ x1 x2 x3 y0 y1 y2 = some (σf, r)) : G MtX12_works X σ 162 [(1, .int x1), (2, .int x2), (3, .int x3)] [.int y2, .int y1, rv y0] := by
  unfold fX12_works_162 at hf
  refine g_iload_n (j := 0) dX12_works_162 rfl rfl ?_
  refine g_bipush (v := 19) dX12_works_163 (by decide) ?_
  refine g_icmp_ne (tgt := 172) dX12_works_165 (by decide) (fun c1 => ?_) (fun c1 => ?_)
  · rw [if_neg c1] at hf
    refine g_iconst (v := 0) dX12_works_172 (by decide) ?_
    refine g_sub (L' := [(2, .int x2), (3, .int x3)]) [1, 2] rfl ?_
    exact bX12_works_173 hX1 hX2 hf
  · rw [if_pos c1] at hf
    refine g_iconst (v := 1) dX12_works_168 (by decide) ?_
    refine g_goto (tgt := 173) dX12_works_169 (by decide) ?_
    refine g_sub (L' := [(2, .int x2), (3, .int x3)]) [1, 2] rfl ?_
    exact bX12_works_173 hX1 hX2 hf

set_option maxRecDepth 100000 in
set_option maxHeartbeats 4000000 in
theorem bX12_works_146 {X : Xt} {σf : St} {r : Int32} (hX1 : X.2.2.1 = σf) (hX2 : X.2.2.2 = .inl (some (.int r))) {σ : St} {x0 : Nat} {x1 : Int32} {x2 : Int32} {x3 : Int32} (hf : fX12_works_146 σ x0 x1 x2 x3 = some (σf, r)) : G MtX12_works X σ 146 [(0, rv x0), (1, .int x1), (2, .int x2), (3, .int x3)] [] := by
  unfold fX12_works_146 at hf
  refine g_aload_n (j := 0) dX12_works_146 rfl rfl ?_
  refine g_iconst (v := 0) dX12_works_147 (by decide) ?_
  refine g_aload_n (j := 0) dX12_works_148 rfl rfl ?_
  refine g_iload_n (j := 2) dX12_works_149 rfl rfl ?_
  refine g_iload_n (j := 3) dX12_works_150 rfl rfl ?_
  obtain ⟨_, h3, hf⟩ := ob hf
  obtain ⟨σ1, v2, eσ1, hf⟩ := cb_el hf
  refine g_callV_i dX12_works_151 (wX12_order _ eσ1) (okX12_order _ (by decide) (by decide)) (ckK_el h3) hc16 t_2471 t_2473 s_X12_order rfl (Nat.le_trans (cat_le _) (Nat.le_of_ble_eq_true rfl)) rfl ?_
  refine g_if_ge (tgt := 161) dX12_works_154 (by decide) (fun c4 => ?_) (fun c4 => ?_)
  · rw [if_pos c4] at hf
    refine g_iconst (v := 0) dX12_works_161 (by decide) ?_
    refine g_sub (L' := [(1, .int x1), (2, .int x2), (3, .int x3)]) [1, 2, 3] rfl ?_
    exact bX12_works_162 hX1 hX2 hf
  · rw [if_neg c4] at hf
    refine g_iconst (v := 1) dX12_works_157 (by decide) ?_
    refine g_goto (tgt := 162) dX12_works_158 (by decide) ?_
    refine g_sub (L' := [(1, .int x1), (2, .int x2), (3, .int x3)]) [1, 2, 3] rfl ?_
    exact bX12_works_162 hX1 hX2 hf

set_option maxRecDepth 100000 in
set_option maxHeartbeats 4000000 in
theorem wX12_works (l : Launch) {σ σf : St} {x0 : Nat} {x1 : Int32} {x2 : Int32} {x3 : Int32} {r : Int32} (hf : fX12_works σ x0 x1 x2 x3 = some (σf, r)) : Con MtX12_works yX12_works l σ [rv x0, .int x1, .int x2, .int x3] σf (some (.int r)) := by
  refine Con.of (by decide +kernel) rfl (fun h => absurd (show false = true from h) (by decide)) (by simp only [sl_n, sl_r, sl_i, sl_l]; exact Nat.le_of_ble_eq_true rfl) ?_
  rw [show lv_args 0 [rv x0, .int x1, .int x2, .int x3] = [(0, rv x0), (1, .int x1), (2, .int x2), (3, .int x3)] by simp only [la_n, la_r, la_i, la_l] <;> rfl]
  have hX1 : ((l, σ, σf, .inl (some (.int r))) : Xt).2.2.1 = σf := rfl
  have hX2 : ((l, σ, σf, .inl (some (.int r))) : Xt).2.2.2 = .inl (some (.int r)) := rfl
  unfold fX12_works at hf
  refine g_iload_n (j := 1) dX12_works_0 rfl rfl ?_
  refine g_iconst (v := 1) dX12_works_1 (by decide) ?_
  refine g_icmp_eq (tgt := 16) dX12_works_2 (by decide) (fun c1 => ?_) (fun c1 => ?_)
  · rw [if_pos c1] at hf
    exact bX12_works_16 hX1 hX2 hf
  · rw [if_neg c1] at hf
    refine g_iload_n (j := 1) dX12_works_5 rfl rfl ?_
    refine g_iconst (v := 2) dX12_works_6 (by decide) ?_
    refine g_icmp_eq (tgt := 16) dX12_works_7 (by decide) (fun c2 => ?_) (fun c2 => ?_)
    · rw [if_pos c2] at hf
      exact bX12_works_16 hX1 hX2 hf
    · rw [if_neg c2] at hf
      refine g_iload_n (j := 1) dX12_works_10 rfl rfl ?_
      refine g_bipush (v := 16) dX12_works_11 (by decide) ?_
      refine g_icmp_ne (tgt := 24) dX12_works_13 (by decide) (fun c3 => ?_) (fun c3 => ?_)
      · rw [if_neg c3] at hf
        refine g_iload_n (j := 1) dX12_works_24 rfl rfl ?_
        refine g_iconst (v := 3) dX12_works_25 (by decide) ?_
        refine g_icmp_eq (tgt := 34) dX12_works_26 (by decide) (fun c4 => ?_) (fun c4 => ?_)
        · rw [if_pos c4] at hf
          exact bX12_works_34 hX1 hX2 hf
        · rw [if_neg c4] at hf
          refine g_iload_n (j := 1) dX12_works_29 rfl rfl ?_
          refine g_iconst (v := 4) dX12_works_30 (by decide) ?_
          refine g_icmp_ne (tgt := 42) dX12_works_31 (by decide) (fun c5 => ?_) (fun c5 => ?_)
          · rw [if_neg c5] at hf
            refine g_iload_n (j := 1) dX12_works_42 rfl rfl ?_
            refine g_iconst (v := 5) dX12_works_43 (by decide) ?_
            refine g_icmp_ne (tgt := 54) dX12_works_44 (by decide) (fun c6 => ?_) (fun c6 => ?_)
            · rw [if_neg c6] at hf
              refine g_iload_n (j := 1) dX12_works_54 rfl rfl ?_
              refine g_bipush (v := 6) dX12_works_55 (by decide) ?_
              refine g_icmp_ne (tgt := 71) dX12_works_57 (by decide) (fun c7 => ?_) (fun c7 => ?_)
              · rw [if_neg c7] at hf
                refine g_iload_n (j := 1) dX12_works_71 rfl rfl ?_
                refine g_bipush (v := 7) dX12_works_72 (by decide) ?_
                refine g_icmp_ne (tgt := 83) dX12_works_74 (by decide) (fun c8 => ?_) (fun c8 => ?_)
                · rw [if_neg c8] at hf
                  refine g_iload_n (j := 1) dX12_works_83 rfl rfl ?_
                  refine g_bipush (v := 10) dX12_works_84 (by decide) ?_
                  refine g_icmp_eq (tgt := 95) dX12_works_86 (by decide) (fun c9 => ?_) (fun c9 => ?_)
                  · rw [if_pos c9] at hf
                    exact bX12_works_95 hX1 hX2 hf
                  · rw [if_neg c9] at hf
                    refine g_iload_n (j := 1) dX12_works_89 rfl rfl ?_
                    refine g_bipush (v := 11) dX12_works_90 (by decide) ?_
                    refine g_icmp_ne (tgt := 103) dX12_works_92 (by decide) (fun c10 => ?_) (fun c10 => ?_)
                    · rw [if_neg c10] at hf
                      refine g_iload_n (j := 1) dX12_works_103 rfl rfl ?_
                      refine g_bipush (v := 12) dX12_works_104 (by decide) ?_
                      refine g_icmp_eq (tgt := 121) dX12_works_106 (by decide) (fun c11 => ?_) (fun c11 => ?_)
                      · rw [if_pos c11] at hf
                        refine g_sub (L' := [(0, rv x0), (1, .int x1), (2, .int x2)]) [0, 1, 2] rfl ?_
                        exact bX12_works_121 hX1 hX2 hf
                      · rw [if_neg c11] at hf
                        refine g_iload_n (j := 1) dX12_works_109 rfl rfl ?_
                        refine g_bipush (v := 13) dX12_works_110 (by decide) ?_
                        refine g_icmp_eq (tgt := 121) dX12_works_112 (by decide) (fun c12 => ?_) (fun c12 => ?_)
                        · rw [if_pos c12] at hf
                          refine g_sub (L' := [(0, rv x0), (1, .int x1), (2, .int x2)]) [0, 1, 2] rfl ?_
                          exact bX12_works_121 hX1 hX2 hf
                        · rw [if_neg c12] at hf
                          refine g_iload_n (j := 1) dX12_works_115 rfl rfl ?_
                          refine g_bipush (v := 14) dX12_works_116 (by decide) ?_
                          refine g_icmp_ne (tgt := 134) dX12_works_118 (by decide) (fun c13 => ?_) (fun c13 => ?_)
                          · rw [if_neg c13] at hf
                            refine g_iload_n (j := 1) dX12_works_134 rfl rfl ?_
                            refine g_bipush (v := 19) dX12_works_135 (by decide) ?_
                            refine g_icmp_eq (tgt := 146) dX12_works_137 (by decide) (fun c14 => ?_) (fun c14 => ?_)
                            · rw [if_pos c14] at hf
                              exact bX12_works_146 hX1 hX2 hf
                            · rw [if_neg c14] at hf
                              refine g_iload_n (j := 1) dX12_works_140 rfl rfl ?_
                              refine g_bipush (v := 20) dX12_works_141 (by decide) ?_
                              refine g_icmp_ne (tgt := 185) dX12_works_143 (by decide) (fun c15 => ?_) (fun c15 => ?_)
                              · rw [if_neg c15] at hf
                                refine g_aload_n (j := 0) dX12_works_185 rfl rfl ?_
                                refine g_iload_n (j := 1) dX12_works_186 rfl rfl ?_
                                refine g_iload_n (j := 2) dX12_works_187 rfl rfl ?_
                                obtain ⟨_, h18, hf⟩ := ob hf
                                obtain ⟨σ16, v17, eσ16, hf⟩ := cb_el hf
                                refine g_callV_i dX12_works_188 (wX12_copiesPart _ eσ16) (okX12_copiesPart _ (by decide) (by decide)) (ckK_el h18) hc16 t_2475 t_2477 s_X12_copiesPart rfl (Nat.le_trans (cat_le _) (Nat.le_of_ble_eq_true rfl)) rfl ?_
                                exact g_iret dX12_works_191 rfl rfl hX2 hX1 hf
                              · rw [if_pos c15] at hf
                                exact bX12_works_146 hX1 hX2 hf
                          · rw [if_pos c13] at hf
                            refine g_sub (L' := [(0, rv x0), (1, .int x1), (2, .int x2)]) [0, 1, 2] rfl ?_
                            exact bX12_works_121 hX1 hX2 hf
                    · rw [if_pos c10] at hf
                      exact bX12_works_95 hX1 hX2 hf
                · rw [if_pos c8] at hf
                  refine g_aload_n (j := 0) dX12_works_77 rfl rfl ?_
                  refine g_iload_n (j := 2) dX12_works_78 rfl rfl ?_
                  obtain ⟨_, h21, hf⟩ := ob hf
                  obtain ⟨σ19, v20, eσ19, hf⟩ := cb_el hf
                  refine g_callV_i dX12_works_79 (wX12_multipliesAll _ eσ19) (okX12_multipliesAll _ (by decide) (by decide)) (ckK_el h21) hc16 t_2459 t_2461 s_X12_multipliesAll rfl (Nat.le_trans (cat_le _) (Nat.le_of_ble_eq_true rfl)) rfl ?_
                  exact g_iret dX12_works_82 rfl rfl hX2 hX1 hf
              · rw [if_pos c7] at hf
                refine g_aload_n (j := 0) dX12_works_60 rfl rfl ?_
                refine g_iload_n (j := 2) dX12_works_61 rfl rfl ?_
                refine g_aload_n (j := 0) dX12_works_62 rfl rfl ?_
                refine g_iload_n (j := 3) dX12_works_63 rfl rfl ?_
                obtain ⟨_, h24, hf⟩ := ob hf
                obtain ⟨σ22, v23, eσ22, hf⟩ := cb_el hf
                refine g_callV_i dX12_works_64 (wX12_asInt _ eσ22) (okX12_asInt _ (by decide) (by decide)) (ckK_el h24) hc16 t_2423 t_2425 s_X12_asInt rfl (Nat.le_trans (cat_le _) (Nat.le_of_ble_eq_true rfl)) rfl ?_
                obtain ⟨_, h27, hf⟩ := ob hf
                obtain ⟨σ25, v26, eσ25, hf⟩ := cb_el hf
                refine g_callV_i dX12_works_67 (wX12_powers _ eσ25) (okX12_powers _ (by decide) (by decide)) (ckK_el h27) hc16 t_2455 t_2457 s_X12_powers rfl (Nat.le_trans (cat_le _) (Nat.le_of_ble_eq_true rfl)) rfl ?_
                exact g_iret dX12_works_70 rfl rfl hX2 hX1 hf
            · rw [if_pos c6] at hf
              refine g_aload_n (j := 0) dX12_works_47 rfl rfl ?_
              refine g_iload_n (j := 2) dX12_works_48 rfl rfl ?_
              refine g_iload_n (j := 3) dX12_works_49 rfl rfl ?_
              obtain ⟨_, h30, hf⟩ := ob hf
              obtain ⟨σ28, v29, eσ28, hf⟩ := cb_el hf
              refine g_callV_i dX12_works_50 (wX12_remains _ eσ28) (okX12_remains _ (by decide) (by decide)) (ckK_el h30) hc16 t_2451 t_2453 s_X12_remains rfl (Nat.le_trans (cat_le _) (Nat.le_of_ble_eq_true rfl)) rfl ?_
              exact g_iret dX12_works_53 rfl rfl hX2 hX1 hf
          · rw [if_pos c5] at hf
            exact bX12_works_34 hX1 hX2 hf
      · rw [if_pos c3] at hf
        exact bX12_works_16 hX1 hX2 hf

theorem okX12_works (M : Mt) (h1 : 6 + 1 ≤ M.2.2.2.2.1) (h2 : 8 + (4 + 11) + 213 ≤ M.2.2.2.2.2.1) : CallOk M MtX12_works yX12_works 3 := ⟨t_2430, h1, h2, ⟨by decide, by decide⟩, by decide +kernel, t_16⟩
abbrev MtX12_does : Mt := (cX12_does, 7, "ExactlySaidModel", (Option.some Jvm.ClassFile.FieldType.int), 7, 236, false)
set_option maxRecDepth 100000 in
set_option maxHeartbeats 4000000 in
theorem wX12_does (l : Launch) {σ σf : St} {x0 : Nat} {x1 : Int32} {x2 : Int32} {x3 : Int32} {x4 : Int32} {r : Int32} (hf : fX12_does σ x0 x1 x2 x3 x4 = some (σf, r)) : Con MtX12_does yX12_does l σ [rv x0, .int x1, .int x2, .int x3, .int x4] σf (some (.int r)) := by
  refine Con.of (by decide +kernel) rfl (fun h => absurd (show false = true from h) (by decide)) (by simp only [sl_n, sl_r, sl_i, sl_l]; exact Nat.le_of_ble_eq_true rfl) ?_
  rw [show lv_args 0 [rv x0, .int x1, .int x2, .int x3, .int x4] = [(0, rv x0), (1, .int x1), (2, .int x2), (3, .int x3), (4, .int x4)] by simp only [la_n, la_r, la_i, la_l] <;> rfl]
  have hX1 : ((l, σ, σf, .inl (some (.int r))) : Xt).2.2.1 = σf := rfl
  have hX2 : ((l, σ, σf, .inl (some (.int r))) : Xt).2.2.2 = .inl (some (.int r)) := rfl
  unfold fX12_does at hf
  refine g_aload_n (j := 0) dX12_does_0 rfl rfl ?_
  obtain ⟨v1, ev1, hf⟩ := ob hf
  refine g_getI dX12_does_1 ev1 t_2022 hin16 hc16 (by decide) rfl ?_
  refine g_sipush (v := 200) dX12_does_4 (by decide) ?_
  refine g_icmp_ne (tgt := 19) dX12_does_7 (by decide) (fun c2 => ?_) (fun c2 => ?_)
  · rw [if_neg c2] at hf
    refine g_aload_n (j := 0) dX12_does_19 rfl rfl ?_
    refine g_iload_n (j := 1) dX12_does_20 rfl rfl ?_
    refine g_iload_n (j := 2) dX12_does_21 rfl rfl ?_
    refine g_iload_n (j := 3) dX12_does_22 rfl rfl ?_
    obtain ⟨_, h5, hf⟩ := ob hf
    obtain ⟨σ3, v4, eσ3, hf⟩ := cb_el hf
    refine g_callV_i dX12_does_23 (wX12_cause _ eσ3) (okX12_cause _ (by decide) (by decide)) (ckK_el h5) hc16 t_2415 t_2417 s_X12_cause rfl (Nat.le_trans (cat_le _) (Nat.le_of_ble_eq_true rfl)) rfl ?_
    refine g_istore (i := 5) (L' := [(5, .int v4), (0, rv x0), (1, .int x1), (2, .int x2), (3, .int x3), (4, .int x4)]) dX12_does_26 (Nat.le_of_ble_eq_true rfl) rfl ?_
    refine g_iload (j := 0) dX12_does_28 rfl ?_
    refine g_if_eq (tgt := 42) dX12_does_30 (by decide) (fun c6 => ?_) (fun c6 => ?_)
    · rw [if_pos c6] at hf
      refine g_aload_n (j := 1) dX12_does_42 rfl rfl ?_
      refine g_iload_n (j := 2) dX12_does_43 rfl rfl ?_
      refine g_iload_n (j := 3) dX12_does_44 rfl rfl ?_
      refine g_iload_n (j := 4) dX12_does_45 rfl rfl ?_
      obtain ⟨_, h9, hf⟩ := ob hf
      obtain ⟨σ7, v8, eσ7, hf⟩ := cb_el hf
      refine g_callV_i dX12_does_46 (wX12_works _ eσ7) (okX12_works _ (by decide) (by decide)) (ckK_el h9) hc16 t_2427 t_2429 s_X12_works rfl (Nat.le_trans (cat_le _) (Nat.le_of_ble_eq_true rfl)) rfl ?_
      refine g_istore (i := 6) (L' := [(6, .int v8), (5, .int v4), (0, rv x0), (1, .int x1), (2, .int x2), (3, .int x3), (4, .int x4)]) dX12_does_49 (Nat.le_of_ble_eq_true rfl) rfl ?_
      refine g_aload_n (j := 2) dX12_does_51 rfl rfl ?_
      refine g_iconst (v := 0) dX12_does_52 (by decide) ?_
      refine g_aload_n (j := 2) dX12_does_53 rfl rfl ?_
      obtain ⟨v10, ev10, hf⟩ := ob hf
      refine g_getI dX12_does_54 ev10 t_2022 hin16 hc16 (by decide) rfl ?_
      refine g_iadd dX12_does_57 ?_
      refine g_iload (j := 0) dX12_does_58 rfl ?_
      obtain ⟨_, h13, hf⟩ := ob hf
      obtain ⟨σ11, v12, eσ11, hf⟩ := cb_el hf
      refine g_callV_i dX12_does_60 (wX12_lays _ eσ11) (okX12_lays _ (by decide) (by decide)) (ckK_el h13) hc16 t_1915 t_1917 s_X12_lays rfl (Nat.le_trans (cat_le _) (Nat.le_of_ble_eq_true rfl)) rfl ?_
      refine g_if_ne (tgt := 75) dX12_does_63 (by decide) (fun c14 => ?_) (fun c14 => ?_)
      · rw [if_neg c14] at hf
        refine g_aload_n (j := 2) dX12_does_75 rfl rfl ?_
        obtain ⟨v15, ev15, hf⟩ := ob hf
        refine g_getF dX12_does_76 ev15 t_2015 hin16 hc16 (by decide) rfl ?_
        refine g_aload_n (j := 2) dX12_does_79 rfl rfl ?_
        obtain ⟨v16, ev16, hf⟩ := ob hf
        refine g_getI dX12_does_80 ev16 t_2022 hin16 hc16 (by decide) rfl ?_
        refine g_iload_n (j := 3) dX12_does_83 rfl rfl ?_
        obtain ⟨σ17, eσ17, hf⟩ := ob hf
        refine g_iast dX12_does_84 eσ17 ?_
        refine g_aload_n (j := 2) dX12_does_85 rfl rfl ?_
        obtain ⟨v18, ev18, hf⟩ := ob hf
        refine g_getF dX12_does_86 ev18 t_2016 hin16 hc16 (by decide) rfl ?_
        refine g_aload_n (j := 2) dX12_does_89 rfl rfl ?_
        obtain ⟨v19, ev19, hf⟩ := ob hf
        refine g_getI dX12_does_90 ev19 t_2022 hin16 hc16 (by decide) rfl ?_
        refine g_iconst (v := 0) dX12_does_93 (by decide) ?_
        refine g_aload_n (j := 2) dX12_does_94 rfl rfl ?_
        obtain ⟨v20, ev20, hf⟩ := ob hf
        refine g_getI dX12_does_95 ev20 t_2022 hin16 hc16 (by decide) rfl ?_
        refine g_iadd dX12_does_98 ?_
        obtain ⟨σ21, eσ21, hf⟩ := ob hf
        refine g_iast dX12_does_99 eσ21 ?_
        refine g_aload_n (j := 2) dX12_does_100 rfl rfl ?_
        refine g_dup dX12_does_101 (rv_cat _) ?_
        obtain ⟨v22, ev22, hf⟩ := ob hf
        refine g_getI dX12_does_102 ev22 t_2022 hin16 hc16 (by decide) rfl ?_
        refine g_iconst (v := 1) dX12_does_105 (by decide) ?_
        refine g_iadd dX12_does_106 ?_
        obtain ⟨σ23, eσ23, hf⟩ := ob hf
        refine g_putI dX12_does_107 eσ23 (Or.inl t_2022) hin16 hc16 (by decide) hty16 hnm16 (Or.inl rfl) rfl rfl rfl ?_
        refine g_iconst (v := 0) dX12_does_110 (by decide) ?_
        refine g_aload_n (j := 2) dX12_does_111 rfl rfl ?_
        obtain ⟨v24, ev24, hf⟩ := ob hf
        refine g_getI dX12_does_112 ev24 t_2022 hin16 hc16 (by decide) rfl ?_
        refine g_iadd dX12_does_115 ?_
        refine g_iconst (v := 1) dX12_does_116 (by decide) ?_
        refine g_isub dX12_does_117 ?_
        exact g_iret dX12_does_118 rfl rfl hX2 hX1 hf
      · rw [if_pos c14] at hf
        refine g_aload_n (j := 2) dX12_does_66 rfl rfl ?_
        refine g_bipush (v := 7) dX12_does_67 (by decide) ?_
        refine g_iload (j := 6) dX12_does_69 rfl ?_
        obtain ⟨_, h27, hf⟩ := ob hf
        obtain ⟨σ25, v26, eσ25, hf⟩ := cb_el hf
        refine g_callV_i dX12_does_71 (wX12_refusedStep _ eσ25) (okX12_refusedStep _ (by decide) (by decide)) (ckK_el h27) hc16 t_2407 t_2409 s_X12_refusedStep rfl (Nat.le_trans (cat_le _) (Nat.le_of_ble_eq_true rfl)) rfl ?_
        exact g_iret dX12_does_74 rfl rfl hX2 hX1 hf
    · rw [if_neg c6] at hf
      refine g_aload_n (j := 1) dX12_does_33 rfl rfl ?_
      refine g_iload (j := 0) dX12_does_34 rfl ?_
      refine g_iload (j := 5) dX12_does_36 rfl ?_
      obtain ⟨_, h30, hf⟩ := ob hf
      obtain ⟨σ28, v29, eσ28, hf⟩ := cb_el hf
      refine g_callV_i dX12_does_38 (wX12_refusedStep _ eσ28) (okX12_refusedStep _ (by decide) (by decide)) (ckK_el h30) hc16 t_2407 t_2409 s_X12_refusedStep rfl (Nat.le_trans (cat_le _) (Nat.le_of_ble_eq_true rfl)) rfl ?_
      exact g_iret dX12_does_41 rfl rfl hX2 hX1 hf
  · rw [if_pos c2] at hf
    refine g_aload_n (j := 0) dX12_does_10 rfl rfl ?_
    refine g_bipush (v := 8) dX12_does_11 (by decide) ?_
    refine g_iload (j := 4) dX12_does_13 rfl ?_
    obtain ⟨_, h33, hf⟩ := ob hf
    obtain ⟨σ31, v32, eσ31, hf⟩ := cb_el hf
    refine g_callV_i dX12_does_15 (wX12_refusedStep _ eσ31) (okX12_refusedStep _ (by decide) (by decide)) (ckK_el h33) hc16 t_2407 t_2409 s_X12_refusedStep rfl (Nat.le_trans (cat_le _) (Nat.le_of_ble_eq_true rfl)) rfl ?_
    exact g_iret dX12_does_18 rfl rfl hX2 hX1 hf

theorem okX12_does (M : Mt) (h1 : 7 + 1 ≤ M.2.2.2.2.1) (h2 : 8 + (7 + 11) + 236 ≤ M.2.2.2.2.2.1) : CallOk M MtX12_does yX12_does 4 := ⟨t_2414, h1, h2, ⟨by decide, by decide⟩, by decide +kernel, t_16⟩
abbrev MtX12_worked : Mt := (cX12_worked, 11, "ExactlySaidModel", (Option.some Jvm.ClassFile.FieldType.int), 8, 262, false)
set_option maxRecDepth 100000 in
set_option maxHeartbeats 4000000 in
theorem bX12_worked_471 {X : Xt} {σf : St} {r : Int32} (hX1 : X.2.2.1 = σf) (hX2 : X.2.2.2 = .inl (some (.int r))) {k25 : St → Nat → Int32 → Int32 → Int32 → Int32 → Option (St × Int32)} (hk25 : ∀ (σ : St) (x0 : Nat) (x2 : Int32) (x3 : Int32) (x4 : Int32) (x5 : Int32), k25 σ x0 x2 x3 x4 x5 = some (σf, r) → G MtX12_worked X σ 25 [(0, rv x0), (2, .int x2), (3, .int x3), (4, .int x4), (5, .int x5)] []) {σ : St} {x0 : Nat} {x2 : Int32} {x3 : Int32} {x4 : Int32} {x5 : Int32} (hf : fX12_worked_471 k25 σ x0 x2 x3 x4 x5 = some (σf, r)) : G MtX12_worked X σ 471 [(0, rv x0), (2, .int x2), (3, .int x3), (4, .int x4), (5, .int x5)] [] := by
  unfold fX12_worked_471 at hf
  obtain ⟨v1, ev1, hf⟩ := nm_el hf
  refine g_iinc (L' := [(4, .int v1), (0, rv x0), (2, .int x2), (3, .int x3), (5, .int x5)]) (j := 3) (v := v1) dX12_worked_471 rfl (by rw [ev1]; rfl) (Nat.le_of_ble_eq_true rfl) rfl ?_
  refine g_goto (tgt := 25) dX12_worked_474 (by decide) ?_
  refine g_sub (L' := [(0, rv x0), (2, .int x2), (3, .int x3), (4, .int v1), (5, .int x5)]) [1, 2, 3, 0, 4] rfl ?_
  exact hk25 _ _ _ _ _ _ hf

set_option maxRecDepth 100000 in
set_option maxHeartbeats 4000000 in
theorem bX12_worked_374 {X : Xt} {σf : St} {r : Int32} (hX1 : X.2.2.1 = σf) (hX2 : X.2.2.2 = .inl (some (.int r))) {k25 : St → Nat → Int32 → Int32 → Int32 → Int32 → Option (St × Int32)} (hk25 : ∀ (σ : St) (x0 : Nat) (x2 : Int32) (x3 : Int32) (x4 : Int32) (x5 : Int32), k25 σ x0 x2 x3 x4 x5 = some (σf, r) → G MtX12_worked X σ 25 [(0, rv x0), (2, .int x2), (3, .int x3), (4, .int x4), (5, .int x5)] []) {σ : St} {x0 : Nat} {x2 : Int32} {x3 : Int32} {x4 : Int32} {x5 : Int32} {y0 : Nat} {y1 : Int32} {y2 : Int32} (hf : fX12_worked_374 k25 σ x0 x2 x3 x4 x5 y0 y1 y2 = some (σf, r)) : G MtX12_worked X σ 374 [(0, rv x0), (2, .int x2), (3, .int x3), (4, .int x4), (5, .int x5)] [.int y2, .int y1, rv y0] := by
  unfold fX12_worked_374 at hf
  obtain ⟨σ1, eσ1, hf⟩ := ob hf
  refine g_iast dX12_worked_374 eσ1 ?_
  obtain ⟨v2, ev2, hf⟩ := nm_el hf
  refine g_iinc (L' := [(2, .int v2), (0, rv x0), (3, .int x3), (4, .int x4), (5, .int x5)]) (j := 1) (v := v2) dX12_worked_375 rfl (by rw [ev2]; rfl) (Nat.le_of_ble_eq_true rfl) rfl ?_
  refine g_goto (tgt := 471) dX12_worked_378 (by decide) ?_
  refine g_sub (L' := [(0, rv x0), (2, .int v2), (3, .int x3), (4, .int x4), (5, .int x5)]) [1, 0, 2, 3, 4] rfl ?_
  exact bX12_worked_471 hX1 hX2 hk25 hf

set_option maxRecDepth 100000 in
set_option maxHeartbeats 4000000 in
theorem bX12_worked_304 {X : Xt} {σf : St} {r : Int32} (hX1 : X.2.2.1 = σf) (hX2 : X.2.2.2 = .inl (some (.int r))) {k25 : St → Nat → Int32 → Int32 → Int32 → Int32 → Option (St × Int32)} (hk25 : ∀ (σ : St) (x0 : Nat) (x2 : Int32) (x3 : Int32) (x4 : Int32) (x5 : Int32), k25 σ x0 x2 x3 x4 x5 = some (σf, r) → G MtX12_worked X σ 25 [(0, rv x0), (2, .int x2), (3, .int x3), (4, .int x4), (5, .int x5)] []) {σ : St} {x0 : Nat} {x2 : Int32} {x3 : Int32} {x4 : Int32} {x5 : Int32} {x6 : Int32} (hf : fX12_worked_304 k25 σ x0 x2 x3 x4 x5 x6 = some (σf, r)) : G MtX12_worked X σ 304 [(0, rv x0), (2, .int x2), (3, .int x3), (4, .int x4), (5, .int x5), (6, .int x6)] [] := by
  unfold fX12_worked_304 at hf
  refine g_aload_n (j := 0) dX12_worked_304 rfl rfl ?_
  obtain ⟨v1, ev1, hf⟩ := ob hf
  refine g_getF dX12_worked_305 ev1 t_2014 hin16 hc16 (by decide) rfl ?_
  refine g_iload_n (j := 1) dX12_worked_308 rfl rfl ?_
  refine g_iload (j := 5) dX12_worked_309 rfl ?_
  refine g_bipush (v := 30) dX12_worked_311 (by decide) ?_
  refine g_icmp_ne (tgt := 326) dX12_worked_313 (by decide) (fun c2 => ?_) (fun c2 => ?_)
  · rw [if_neg c2] at hf
    refine g_iload (j := 5) dX12_worked_326 rfl ?_
    refine g_bipush (v := 31) dX12_worked_328 (by decide) ?_
    refine g_icmp_ne (tgt := 353) dX12_worked_330 (by decide) (fun c3 => ?_) (fun c3 => ?_)
    · rw [if_neg c3] at hf
      refine g_aload_n (j := 0) dX12_worked_353 rfl rfl ?_
      obtain ⟨v4, ev4, hf⟩ := ob hf
      refine g_getF dX12_worked_354 ev4 t_2014 hin16 hc16 (by decide) rfl ?_
      refine g_aload_n (j := 0) dX12_worked_357 rfl rfl ?_
      obtain ⟨v5, ev5, hf⟩ := ob hf
      refine g_getF dX12_worked_358 ev5 t_2020 hin16 hc16 (by decide) rfl ?_
      refine g_iload_n (j := 2) dX12_worked_361 rfl rfl ?_
      refine g_iconst (v := 1) dX12_worked_362 (by decide) ?_
      refine g_isub dX12_worked_363 ?_
      obtain ⟨v6, ev6, hf⟩ := ob hf
      refine g_iald dX12_worked_364 ev6 ?_
      refine g_aload_n (j := 0) dX12_worked_365 rfl rfl ?_
      obtain ⟨v7, ev7, hf⟩ := ob hf
      refine g_getF dX12_worked_366 ev7 t_1985 hin16 hc16 (by decide) rfl ?_
      refine g_iload (j := 3) dX12_worked_369 rfl ?_
      obtain ⟨v8, ev8, hf⟩ := ob hf
      refine g_iald dX12_worked_371 ev8 ?_
      refine g_iadd dX12_worked_372 ?_
      obtain ⟨v9, ev9, hf⟩ := ob hf
      refine g_iald dX12_worked_373 ev9 ?_
      refine g_sub (L' := [(0, rv x0), (2, .int x2), (3, .int x3), (4, .int x4), (5, .int x5)]) [0, 1, 2, 3, 4] rfl ?_
      exact bX12_worked_374 hX1 hX2 hk25 hf
    · rw [if_pos c3] at hf
      refine g_aload_n (j := 0) dX12_worked_333 rfl rfl ?_
      obtain ⟨v10, ev10, hf⟩ := ob hf
      refine g_getF dX12_worked_334 ev10 t_2006 hin16 hc16 (by decide) rfl ?_
      refine g_aload_n (j := 0) dX12_worked_337 rfl rfl ?_
      refine g_aload_n (j := 0) dX12_worked_338 rfl rfl ?_
      obtain ⟨v11, ev11, hf⟩ := ob hf
      refine g_getF dX12_worked_339 ev11 t_1985 hin16 hc16 (by decide) rfl ?_
      refine g_iload (j := 3) dX12_worked_342 rfl ?_
      obtain ⟨v12, ev12, hf⟩ := ob hf
      refine g_iald dX12_worked_344 ev12 ?_
      refine g_iconst (v := 0) dX12_worked_345 (by decide) ?_
      obtain ⟨_, h15, hf⟩ := ob hf
      obtain ⟨σ13, v14, eσ13, hf⟩ := cb_el hf
      refine g_callV_i dX12_worked_346 (wX12_thing _ eσ13) (okX12_thing _ (by decide) (by decide)) (ckK_el h15) hc16 t_2357 t_2359 s_X12_thing rfl (Nat.le_trans (cat_le _) (Nat.le_of_ble_eq_true rfl)) rfl ?_
      obtain ⟨v16, ev16, hf⟩ := ob hf
      refine g_iald dX12_worked_349 ev16 ?_
      refine g_goto (tgt := 374) dX12_worked_350 (by decide) ?_
      refine g_sub (L' := [(0, rv x0), (2, .int x2), (3, .int x3), (4, .int x4), (5, .int x5)]) [0, 1, 2, 3, 4] rfl ?_
      exact bX12_worked_374 hX1 hX2 hk25 hf
  · rw [if_pos c2] at hf
    refine g_aload_n (j := 0) dX12_worked_316 rfl rfl ?_
    obtain ⟨v17, ev17, hf⟩ := ob hf
    refine g_getF dX12_worked_317 ev17 t_1985 hin16 hc16 (by decide) rfl ?_
    refine g_iload (j := 3) dX12_worked_320 rfl ?_
    obtain ⟨v18, ev18, hf⟩ := ob hf
    refine g_iald dX12_worked_322 ev18 ?_
    refine g_goto (tgt := 374) dX12_worked_323 (by decide) ?_
    refine g_sub (L' := [(0, rv x0), (2, .int x2), (3, .int x3), (4, .int x4), (5, .int x5)]) [0, 1, 2, 3, 4] rfl ?_
    exact bX12_worked_374 hX1 hX2 hk25 hf

set_option maxRecDepth 100000 in
set_option maxHeartbeats 4000000 in
theorem bX12_worked_418 {X : Xt} {σf : St} {r : Int32} (hX1 : X.2.2.1 = σf) (hX2 : X.2.2.2 = .inl (some (.int r))) {k25 : St → Nat → Int32 → Int32 → Int32 → Int32 → Option (St × Int32)} (hk25 : ∀ (σ : St) (x0 : Nat) (x2 : Int32) (x3 : Int32) (x4 : Int32) (x5 : Int32), k25 σ x0 x2 x3 x4 x5 = some (σf, r) → G MtX12_worked X σ 25 [(0, rv x0), (2, .int x2), (3, .int x3), (4, .int x4), (5, .int x5)] []) {σ : St} {x0 : Nat} {x2 : Int32} {x3 : Int32} {x4 : Int32} {x5 : Int32} {x7 : Int32} {x8 : Int32} {y0 : Int32} (hf : fX12_worked_418 k25 σ x0 x2 x3 x4 x5 x7 x8 y0 = some (σf, r)) : G MtX12_worked X σ 418 [(0, rv x0), (2, .int x2), (3, .int x3), (4, .int x4), (5, .int x5), (7, .int x7), (8, .int x8)] [.int y0] := by
  unfold fX12_worked_418 at hf
  refine g_istore (i := 9) (L' := [(9, .int y0), (0, rv x0), (2, .int x2), (3, .int x3), (4, .int x4), (5, .int x5), (7, .int x7), (8, .int x8)]) dX12_worked_418 (Nat.le_of_ble_eq_true rfl) rfl ?_
  refine g_aload_n (j := 1) dX12_worked_420 rfl rfl ?_
  refine g_iload (j := 7) dX12_worked_421 rfl ?_
  refine g_aload_n (j := 1) dX12_worked_423 rfl rfl ?_
  obtain ⟨v1, ev1, hf⟩ := ob hf
  refine g_getF dX12_worked_424 ev1 t_2014 hin16 hc16 (by decide) rfl ?_
  refine g_iload_n (j := 2) dX12_worked_427 rfl rfl ?_
  refine g_iload (j := 0) dX12_worked_428 rfl ?_
  refine g_isub dX12_worked_430 ?_
  obtain ⟨v2, ev2, hf⟩ := ob hf
  refine g_iald dX12_worked_431 ev2 ?_
  refine g_aload_n (j := 1) dX12_worked_432 rfl rfl ?_
  obtain ⟨v3, ev3, hf⟩ := ob hf
  refine g_getF dX12_worked_433 ev3 t_2014 hin16 hc16 (by decide) rfl ?_
  refine g_iload_n (j := 2) dX12_worked_436 rfl rfl ?_
  refine g_iconst (v := 1) dX12_worked_437 (by decide) ?_
  refine g_isub dX12_worked_438 ?_
  obtain ⟨v4, ev4, hf⟩ := ob hf
  refine g_iald dX12_worked_439 ev4 ?_
  refine g_iload (j := 6) dX12_worked_440 rfl ?_
  obtain ⟨_, h7, hf⟩ := ob hf
  obtain ⟨σ5, v6, eσ5, hf⟩ := cb_el hf
  refine g_callV_i dX12_worked_442 (wX12_does _ eσ5) (okX12_does _ (by decide) (by decide)) (ckK_el h7) hc16 t_2411 t_2413 s_X12_does rfl (Nat.le_trans (cat_le _) (Nat.le_of_ble_eq_true rfl)) rfl ?_
  refine g_istore (i := 10) (L' := [(10, .int v6), (9, .int y0), (0, rv x0), (2, .int x2), (3, .int x3), (4, .int x4), (5, .int x5), (7, .int x7), (8, .int x8)]) dX12_worked_445 (Nat.le_of_ble_eq_true rfl) rfl ?_
  refine g_iload (j := 0) dX12_worked_447 rfl ?_
  refine g_iconst (v := (-1)) dX12_worked_449 (by decide) ?_
  refine g_icmp_ne (tgt := 455) dX12_worked_450 (by decide) (fun c8 => ?_) (fun c8 => ?_)
  · rw [if_neg c8] at hf
    refine g_iload_n (j := 3) dX12_worked_455 rfl rfl ?_
    refine g_iload (j := 1) dX12_worked_456 rfl ?_
    refine g_isub dX12_worked_458 ?_
    obtain ⟨v9, ev9, hf⟩ := nm_el hf
    refine g_topI ev9 ?_
    refine g_istore_n (i := 2) (L' := [(2, .int v9), (10, .int v6), (9, .int y0), (0, rv x0), (3, .int x3), (4, .int x4), (5, .int x5), (7, .int x7), (8, .int x8)]) dX12_worked_459 rfl (Nat.le_of_ble_eq_true rfl) rfl ?_
    refine g_aload_n (j := 3) dX12_worked_460 rfl rfl ?_
    obtain ⟨v10, ev10, hf⟩ := ob hf
    refine g_getF dX12_worked_461 ev10 t_2014 hin16 hc16 (by decide) rfl ?_
    refine g_iload_n (j := 0) dX12_worked_464 rfl rfl ?_
    refine g_iload (j := 1) dX12_worked_465 rfl ?_
    obtain ⟨σ11, eσ11, hf⟩ := ob hf
    refine g_iast dX12_worked_467 eσ11 ?_
    obtain ⟨v12, ev12, hf⟩ := nm_el hf
    refine g_iinc (L' := [(2, .int v12), (10, .int v6), (9, .int y0), (0, rv x0), (3, .int x3), (4, .int x4), (5, .int x5), (7, .int x7), (8, .int x8)]) (j := 0) (v := v12) dX12_worked_468 rfl (by rw [ev12]; rfl) (Nat.le_of_ble_eq_true rfl) rfl ?_
    refine g_sub (L' := [(0, rv x0), (2, .int v12), (3, .int x3), (4, .int x4), (5, .int x5)]) [3, 0, 4, 5, 6] rfl ?_
    exact bX12_worked_471 hX1 hX2 hk25 hf
  · rw [if_pos c8] at hf
    refine g_iconst (v := (-1)) dX12_worked_453 (by decide) ?_
    exact g_iret dX12_worked_454 rfl rfl hX2 hX1 hf

set_option maxRecDepth 100000 in
set_option maxHeartbeats 4000000 in
theorem bX12_worked_403 {X : Xt} {σf : St} {r : Int32} (hX1 : X.2.2.1 = σf) (hX2 : X.2.2.2 = .inl (some (.int r))) {k25 : St → Nat → Int32 → Int32 → Int32 → Int32 → Option (St × Int32)} (hk25 : ∀ (σ : St) (x0 : Nat) (x2 : Int32) (x3 : Int32) (x4 : Int32) (x5 : Int32), k25 σ x0 x2 x3 x4 x5 = some (σf, r) → G MtX12_worked X σ 25 [(0, rv x0), (2, .int x2), (3, .int x3), (4, .int x4), (5, .int x5)] []) {σ : St} {x0 : Nat} {x2 : Int32} {x3 : Int32} {x4 : Int32} {x5 : Int32} {x7 : Int32} {y0 : Int32} (hf : fX12_worked_403 k25 σ x0 x2 x3 x4 x5 x7 y0 = some (σf, r)) : G MtX12_worked X σ 403 [(0, rv x0), (2, .int x2), (3, .int x3), (4, .int x4), (5, .int x5), (7, .int x7)] [.int y0] := by
  unfold fX12_worked_403 at hf
  refine g_istore (i := 8) (L' := [(8, .int y0), (0, rv x0), (2, .int x2), (3, .int x3), (4, .int x4), (5, .int x5), (7, .int x7)]) dX12_worked_403 (Nat.le_of_ble_eq_true rfl) rfl ?_
  refine g_iload (j := 0) dX12_worked_405 rfl ?_
  obtain ⟨σ1, v2, eσ1, hf⟩ := cb_el hf
  refine g_callS_i dX12_worked_407 (wX12_hasTwo _ eσ1) (okX12_hasTwo _ (by decide) (by decide)) t_2368 t_2369 rfl (Nat.le_trans (cat_le _) (Nat.le_of_ble_eq_true rfl)) rfl ?_
  refine g_if_eq (tgt := 417) dX12_worked_410 (by decide) (fun c3 => ?_) (fun c3 => ?_)
  · rw [if_pos c3] at hf
    refine g_iconst (v := 1) dX12_worked_417 (by decide) ?_
    refine g_sub (L' := [(0, rv x0), (2, .int x2), (3, .int x3), (4, .int x4), (5, .int x5), (7, .int x7), (8, .int y0)]) [1, 2, 3, 4, 5, 6, 0] rfl ?_
    exact bX12_worked_418 hX1 hX2 hk25 hf
  · rw [if_neg c3] at hf
    refine g_iconst (v := 2) dX12_worked_413 (by decide) ?_
    refine g_goto (tgt := 418) dX12_worked_414 (by decide) ?_
    refine g_sub (L' := [(0, rv x0), (2, .int x2), (3, .int x3), (4, .int x4), (5, .int x5), (7, .int x7), (8, .int y0)]) [1, 2, 3, 4, 5, 6, 0] rfl ?_
    exact bX12_worked_418 hX1 hX2 hk25 hf

set_option maxRecDepth 100000 in
set_option maxHeartbeats 4000000 in
theorem bX12_worked_283 {X : Xt} {σf : St} {r : Int32} (hX1 : X.2.2.1 = σf) (hX2 : X.2.2.2 = .inl (some (.int r))) {k25 : St → Nat → Int32 → Int32 → Int32 → Int32 → Option (St × Int32)} (hk25 : ∀ (σ : St) (x0 : Nat) (x2 : Int32) (x3 : Int32) (x4 : Int32) (x5 : Int32), k25 σ x0 x2 x3 x4 x5 = some (σf, r) → G MtX12_worked X σ 25 [(0, rv x0), (2, .int x2), (3, .int x3), (4, .int x4), (5, .int x5)] []) {σ : St} {x0 : Nat} {x2 : Int32} {x3 : Int32} {x4 : Int32} {x5 : Int32} {x6 : Int32} {x7 : Int32} (hf : fX12_worked_283 k25 σ x0 x2 x3 x4 x5 x6 x7 = some (σf, r)) : G MtX12_worked X σ 283 [(0, rv x0), (2, .int x2), (3, .int x3), (4, .int x4), (5, .int x5), (6, .int x6), (7, .int x7)] [] := by
  unfold fX12_worked_283 at hf
  refine g_iload (j := 5) dX12_worked_283 rfl ?_
  refine g_bipush (v := 30) dX12_worked_285 (by decide) ?_
  refine g_icmp_eq (tgt := 304) dX12_worked_287 (by decide) (fun c1 => ?_) (fun c1 => ?_)
  · rw [if_pos c1] at hf
    refine g_sub (L' := [(0, rv x0), (2, .int x2), (3, .int x3), (4, .int x4), (5, .int x5), (6, .int x6)]) [0, 1, 2, 3, 4, 5] rfl ?_
    exact bX12_worked_304 hX1 hX2 hk25 hf
  · rw [if_neg c1] at hf
    refine g_iload (j := 5) dX12_worked_290 rfl ?_
    refine g_bipush (v := 31) dX12_worked_292 (by decide) ?_
    refine g_icmp_eq (tgt := 304) dX12_worked_294 (by decide) (fun c2 => ?_) (fun c2 => ?_)
    · rw [if_pos c2] at hf
      refine g_sub (L' := [(0, rv x0), (2, .int x2), (3, .int x3), (4, .int x4), (5, .int x5), (6, .int x6)]) [0, 1, 2, 3, 4, 5] rfl ?_
      exact bX12_worked_304 hX1 hX2 hk25 hf
    · rw [if_neg c2] at hf
      refine g_iload (j := 5) dX12_worked_297 rfl ?_
      refine g_bipush (v := 32) dX12_worked_299 (by decide) ?_
      refine g_icmp_ne (tgt := 381) dX12_worked_301 (by decide) (fun c3 => ?_) (fun c3 => ?_)
      · rw [if_neg c3] at hf
        refine g_iload (j := 5) dX12_worked_381 rfl ?_
        refine g_bipush (v := 33) dX12_worked_383 (by decide) ?_
        refine g_icmp_ne (tgt := 401) dX12_worked_385 (by decide) (fun c4 => ?_) (fun c4 => ?_)
        · rw [if_neg c4] at hf
          refine g_iload (j := 5) dX12_worked_401 rfl ?_
          refine g_sub (L' := [(0, rv x0), (2, .int x2), (3, .int x3), (4, .int x4), (5, .int x5), (7, .int x7)]) [0, 1, 2, 3, 4, 6] rfl ?_
          exact bX12_worked_403 hX1 hX2 hk25 hf
        · rw [if_pos c4] at hf
          refine g_aload_n (j := 0) dX12_worked_388 rfl rfl ?_
          obtain ⟨v5, ev5, hf⟩ := ob hf
          refine g_getF dX12_worked_389 ev5 t_1985 hin16 hc16 (by decide) rfl ?_
          refine g_iload (j := 3) dX12_worked_392 rfl ?_
          obtain ⟨v6, ev6, hf⟩ := ob hf
          refine g_iald dX12_worked_394 ev6 ?_
          obtain ⟨σ7, v8, eσ7, hf⟩ := cb_el hf
          refine g_callS_i dX12_worked_395 (wX12_known _ eσ7) (okX12_known _ (by decide) (by decide)) t_2365 t_2366 rfl (Nat.le_trans (cat_le _) (Nat.le_of_ble_eq_true rfl)) rfl ?_
          refine g_goto (tgt := 403) dX12_worked_398 (by decide) ?_
          refine g_sub (L' := [(0, rv x0), (2, .int x2), (3, .int x3), (4, .int x4), (5, .int x5), (7, .int x7)]) [0, 1, 2, 3, 4, 6] rfl ?_
          exact bX12_worked_403 hX1 hX2 hk25 hf
      · rw [if_pos c3] at hf
        refine g_sub (L' := [(0, rv x0), (2, .int x2), (3, .int x3), (4, .int x4), (5, .int x5), (6, .int x6)]) [0, 1, 2, 3, 4, 5] rfl ?_
        exact bX12_worked_304 hX1 hX2 hk25 hf

set_option maxRecDepth 100000 in
set_option maxHeartbeats 4000000 in
theorem bX12_worked_177 {X : Xt} {σf : St} {r : Int32} (hX1 : X.2.2.1 = σf) (hX2 : X.2.2.2 = .inl (some (.int r))) {k25 : St → Nat → Int32 → Int32 → Int32 → Int32 → Option (St × Int32)} (hk25 : ∀ (σ : St) (x0 : Nat) (x2 : Int32) (x3 : Int32) (x4 : Int32) (x5 : Int32), k25 σ x0 x2 x3 x4 x5 = some (σf, r) → G MtX12_worked X σ 25 [(0, rv x0), (2, .int x2), (3, .int x3), (4, .int x4), (5, .int x5)] []) {σ : St} {x0 : Nat} {x2 : Int32} {x3 : Int32} {x4 : Int32} {x5 : Int32} {x6 : Int32} {y0 : Int32} (hf : fX12_worked_177 k25 σ x0 x2 x3 x4 x5 x6 y0 = some (σf, r)) : G MtX12_worked X σ 177 [(0, rv x0), (2, .int x2), (3, .int x3), (4, .int x4), (5, .int x5), (6, .int x6)] [.int y0] := by
  unfold fX12_worked_177 at hf
  refine g_istore (i := 7) (L' := [(7, .int y0), (0, rv x0), (2, .int x2), (3, .int x3), (4, .int x4), (5, .int x5), (6, .int x6)]) dX12_worked_177 (Nat.le_of_ble_eq_true rfl) rfl ?_
  refine g_iload (j := 6) dX12_worked_179 rfl ?_
  refine g_bipush (v := 33) dX12_worked_181 (by decide) ?_
  refine g_icmp_ne (tgt := 283) dX12_worked_183 (by decide) (fun c1 => ?_) (fun c1 => ?_)
  · rw [if_neg c1] at hf
    refine g_sub (L' := [(0, rv x0), (2, .int x2), (3, .int x3), (4, .int x4), (5, .int x5), (6, .int x6), (7, .int y0)]) [1, 2, 3, 4, 5, 6, 0] rfl ?_
    exact bX12_worked_283 hX1 hX2 hk25 hf
  · rw [if_pos c1] at hf
    refine g_aload_n (j := 1) dX12_worked_186 rfl rfl ?_
    obtain ⟨v2, ev2, hf⟩ := ob hf
    refine g_getF dX12_worked_187 ev2 t_1985 hin16 hc16 (by decide) rfl ?_
    refine g_iload (j := 4) dX12_worked_190 rfl ?_
    obtain ⟨v3, ev3, hf⟩ := ob hf
    refine g_iald dX12_worked_192 ev3 ?_
    obtain ⟨σ4, v5, eσ4, hf⟩ := cb_el hf
    refine g_callS_i dX12_worked_193 (wX12_known _ eσ4) (okX12_known _ (by decide) (by decide)) t_2365 t_2366 rfl (Nat.le_trans (cat_le _) (Nat.le_of_ble_eq_true rfl)) rfl ?_
    refine g_if_ne (tgt := 283) dX12_worked_196 (by decide) (fun c6 => ?_) (fun c6 => ?_)
    · rw [if_neg c6] at hf
      refine g_sub (L' := [(0, rv x0), (2, .int x2), (3, .int x3), (4, .int x4), (5, .int x5), (6, .int x6), (7, .int y0)]) [1, 2, 3, 4, 5, 6, 0] rfl ?_
      exact bX12_worked_283 hX1 hX2 hk25 hf
    · rw [if_pos c6] at hf
      refine g_aload_n (j := 1) dX12_worked_199 rfl rfl ?_
      obtain ⟨v7, ev7, hf⟩ := ob hf
      refine g_getF dX12_worked_200 ev7 t_2021 hin16 hc16 (by decide) rfl ?_
      refine g_iload_n (j := 3) dX12_worked_203 rfl rfl ?_
      refine g_iload (j := 0) dX12_worked_204 rfl ?_
      obtain ⟨σ8, eσ8, hf⟩ := ob hf
      refine g_iast dX12_worked_206 eσ8 ?_
      refine g_aload_n (j := 1) dX12_worked_207 rfl rfl ?_
      obtain ⟨v9, ev9, hf⟩ := ob hf
      refine g_getF dX12_worked_208 ev9 t_2018 hin16 hc16 (by decide) rfl ?_
      refine g_iload_n (j := 3) dX12_worked_211 rfl rfl ?_
      refine g_iload (j := 4) dX12_worked_212 rfl ?_
      refine g_iconst (v := 1) dX12_worked_214 (by decide) ?_
      refine g_iadd dX12_worked_215 ?_
      obtain ⟨σ10, eσ10, hf⟩ := ob hf
      refine g_iast dX12_worked_216 eσ10 ?_
      refine g_aload_n (j := 1) dX12_worked_217 rfl rfl ?_
      obtain ⟨v11, ev11, hf⟩ := ob hf
      refine g_getF dX12_worked_218 ev11 t_2019 hin16 hc16 (by decide) rfl ?_
      refine g_iload_n (j := 3) dX12_worked_221 rfl rfl ?_
      refine g_iload (j := 5) dX12_worked_222 rfl ?_
      obtain ⟨σ12, eσ12, hf⟩ := ob hf
      refine g_iast dX12_worked_224 eσ12 ?_
      refine g_aload_n (j := 1) dX12_worked_225 rfl rfl ?_
      obtain ⟨v13, ev13, hf⟩ := ob hf
      refine g_getF dX12_worked_226 ev13 t_2020 hin16 hc16 (by decide) rfl ?_
      refine g_iload_n (j := 3) dX12_worked_229 rfl rfl ?_
      refine g_iload_n (j := 2) dX12_worked_230 rfl rfl ?_
      refine g_aload_n (j := 1) dX12_worked_231 rfl rfl ?_
      obtain ⟨v14, ev14, hf⟩ := ob hf
      refine g_getF dX12_worked_232 ev14 t_1986 hin16 hc16 (by decide) rfl ?_
      refine g_iload (j := 4) dX12_worked_235 rfl ?_
      obtain ⟨v15, ev15, hf⟩ := ob hf
      refine g_iald dX12_worked_237 ev15 ?_
      refine g_isub dX12_worked_238 ?_
      obtain ⟨σ16, eσ16, hf⟩ := ob hf
      refine g_iast dX12_worked_239 eσ16 ?_
      refine g_aload_n (j := 1) dX12_worked_240 rfl rfl ?_
      obtain ⟨v17, ev17, hf⟩ := ob hf
      refine g_getF dX12_worked_241 ev17 t_2005 hin16 hc16 (by decide) rfl ?_
      refine g_aload_n (j := 1) dX12_worked_244 rfl rfl ?_
      refine g_aload_n (j := 1) dX12_worked_245 rfl rfl ?_
      obtain ⟨v18, ev18, hf⟩ := ob hf
      refine g_getF dX12_worked_246 ev18 t_1985 hin16 hc16 (by decide) rfl ?_
      refine g_iload (j := 4) dX12_worked_249 rfl ?_
      obtain ⟨v19, ev19, hf⟩ := ob hf
      refine g_iald dX12_worked_251 ev19 ?_
      refine g_iconst (v := 1) dX12_worked_252 (by decide) ?_
      obtain ⟨_, h22, hf⟩ := ob hf
      obtain ⟨σ20, v21, eσ20, hf⟩ := cb_el hf
      refine g_callV_i dX12_worked_253 (wX12_thing _ eσ20) (okX12_thing _ (by decide) (by decide)) (ckK_el h22) hc16 t_2357 t_2359 s_X12_thing rfl (Nat.le_trans (cat_le _) (Nat.le_of_ble_eq_true rfl)) rfl ?_
      obtain ⟨v23, ev23, hf⟩ := ob hf
      refine g_iald dX12_worked_256 ev23 ?_
      refine g_istore (i := 8) (L' := [(8, .int v23), (7, .int y0), (0, rv x0), (2, .int x2), (3, .int x3), (4, .int x4), (5, .int x5), (6, .int x6)]) dX12_worked_257 (Nat.le_of_ble_eq_true rfl) rfl ?_
      obtain ⟨v24, ev24, hf⟩ := nm_el hf
      refine g_iinc (L' := [(3, .int v24), (8, .int v23), (7, .int y0), (0, rv x0), (2, .int x2), (4, .int x4), (5, .int x5), (6, .int x6)]) (j := 4) (v := v24) dX12_worked_259 rfl (by rw [ev24]; rfl) (Nat.le_of_ble_eq_true rfl) rfl ?_
      refine g_aload_n (j := 3) dX12_worked_262 rfl rfl ?_
      obtain ⟨v25, ev25, hf⟩ := ob hf
      refine g_getF dX12_worked_263 ev25 t_1989 hin16 hc16 (by decide) rfl ?_
      refine g_iload (j := 1) dX12_worked_266 rfl ?_
      obtain ⟨v26, ev26, hf⟩ := ob hf
      refine g_iald dX12_worked_268 ev26 ?_
      refine g_istore (i := 4) (L' := [(4, .int v26), (3, .int v24), (8, .int v23), (7, .int y0), (0, rv x0), (2, .int x2), (5, .int x5), (6, .int x6)]) dX12_worked_269 (Nat.le_of_ble_eq_true rfl) rfl ?_
      refine g_aload_n (j := 4) dX12_worked_271 rfl rfl ?_
      obtain ⟨v27, ev27, hf⟩ := ob hf
      refine g_getF dX12_worked_272 ev27 t_1990 hin16 hc16 (by decide) rfl ?_
      refine g_iload (j := 2) dX12_worked_275 rfl ?_
      obtain ⟨v28, ev28, hf⟩ := ob hf
      refine g_iald dX12_worked_277 ev28 ?_
      refine g_istore (i := 5) (L' := [(5, .int v28), (4, .int v26), (3, .int v24), (8, .int v23), (7, .int y0), (0, rv x0), (2, .int x2), (6, .int x6)]) dX12_worked_278 (Nat.le_of_ble_eq_true rfl) rfl ?_
      refine g_goto (tgt := 25) dX12_worked_280 (by decide) ?_
      refine g_sub (L' := [(0, rv x0), (2, .int x2), (3, .int v24), (4, .int v26), (5, .int v28)]) [5, 6, 2, 1, 0] rfl ?_
      exact hk25 _ _ _ _ _ _ hf

set_option maxRecDepth 100000 in
set_option maxHeartbeats 4000000 in
theorem bX12_worked_36 {X : Xt} {σf : St} {r : Int32} (hX1 : X.2.2.1 = σf) (hX2 : X.2.2.2 = .inl (some (.int r))) {k25 : St → Nat → Int32 → Int32 → Int32 → Int32 → Option (St × Int32)} (hk25 : ∀ (σ : St) (x0 : Nat) (x2 : Int32) (x3 : Int32) (x4 : Int32) (x5 : Int32), k25 σ x0 x2 x3 x4 x5 = some (σf, r) → G MtX12_worked X σ 25 [(0, rv x0), (2, .int x2), (3, .int x3), (4, .int x4), (5, .int x5)] []) {σ : St} {x0 : Nat} {x2 : Int32} {x3 : Int32} {x4 : Int32} {x5 : Int32} (hf : fX12_worked_36 k25 σ x0 x2 x3 x4 x5 = some (σf, r)) : G MtX12_worked X σ 36 [(0, rv x0), (2, .int x2), (3, .int x3), (4, .int x4), (5, .int x5)] [] := by
  unfold fX12_worked_36 at hf
  refine g_iload (j := 3) dX12_worked_36 rfl ?_
  refine g_iload (j := 4) dX12_worked_38 rfl ?_
  refine g_icmp_ne (tgt := 148) dX12_worked_40 (by decide) (fun c1 => ?_) (fun c1 => ?_)
  · rw [if_neg c1] at hf
    refine g_aload_n (j := 0) dX12_worked_148 rfl rfl ?_
    obtain ⟨v2, ev2, hf⟩ := ob hf
    refine g_getF dX12_worked_149 ev2 t_1984 hin16 hc16 (by decide) rfl ?_
    refine g_iload (j := 3) dX12_worked_152 rfl ?_
    obtain ⟨v3, ev3, hf⟩ := ob hf
    refine g_iald dX12_worked_154 ev3 ?_
    refine g_istore (i := 6) (L' := [(6, .int v3), (0, rv x0), (2, .int x2), (3, .int x3), (4, .int x4), (5, .int x5)]) dX12_worked_155 (Nat.le_of_ble_eq_true rfl) rfl ?_
    refine g_iload_n (j := 3) dX12_worked_157 rfl rfl ?_
    refine g_if_le (tgt := 170) dX12_worked_158 (by decide) (fun c4 => ?_) (fun c4 => ?_)
    · rw [if_pos c4] at hf
      refine g_aload_n (j := 1) dX12_worked_170 rfl rfl ?_
      obtain ⟨v5, ev5, hf⟩ := ob hf
      refine g_getF dX12_worked_171 ev5 t_1987 hin16 hc16 (by decide) rfl ?_
      refine g_iload (j := 4) dX12_worked_174 rfl ?_
      obtain ⟨v6, ev6, hf⟩ := ob hf
      refine g_iald dX12_worked_176 ev6 ?_
      refine g_sub (L' := [(0, rv x0), (2, .int x2), (3, .int x3), (4, .int x4), (5, .int x5), (6, .int v3)]) [1, 2, 3, 4, 5, 0] rfl ?_
      exact bX12_worked_177 hX1 hX2 hk25 hf
    · rw [if_neg c4] at hf
      refine g_aload_n (j := 1) dX12_worked_161 rfl rfl ?_
      obtain ⟨v7, ev7, hf⟩ := ob hf
      refine g_getF dX12_worked_162 ev7 t_2021 hin16 hc16 (by decide) rfl ?_
      refine g_iconst (v := 0) dX12_worked_165 (by decide) ?_
      obtain ⟨v8, ev8, hf⟩ := ob hf
      refine g_iald dX12_worked_166 ev8 ?_
      refine g_goto (tgt := 177) dX12_worked_167 (by decide) ?_
      refine g_sub (L' := [(0, rv x0), (2, .int x2), (3, .int x3), (4, .int x4), (5, .int x5), (6, .int v3)]) [1, 2, 3, 4, 5, 0] rfl ?_
      exact bX12_worked_177 hX1 hX2 hk25 hf
  · rw [if_pos c1] at hf
    obtain ⟨v9, ev9, hf⟩ := nm_el hf
    refine g_iinc (L' := [(3, .int v9), (0, rv x0), (2, .int x2), (4, .int x4), (5, .int x5)]) (j := 2) (v := v9) dX12_worked_43 rfl (by rw [ev9]; rfl) (Nat.le_of_ble_eq_true rfl) rfl ?_
    refine g_aload_n (j := 1) dX12_worked_46 rfl rfl ?_
    obtain ⟨v10, ev10, hf⟩ := ob hf
    refine g_getF dX12_worked_47 ev10 t_2014 hin16 hc16 (by decide) rfl ?_
    refine g_iload_n (j := 2) dX12_worked_50 rfl rfl ?_
    refine g_iconst (v := 1) dX12_worked_51 (by decide) ?_
    refine g_isub dX12_worked_52 ?_
    obtain ⟨v11, ev11, hf⟩ := ob hf
    refine g_iald dX12_worked_53 ev11 ?_
    refine g_istore (i := 6) (L' := [(6, .int v11), (3, .int v9), (0, rv x0), (2, .int x2), (4, .int x4), (5, .int x5)]) dX12_worked_54 (Nat.le_of_ble_eq_true rfl) rfl ?_
    refine g_aload_n (j := 2) dX12_worked_56 rfl rfl ?_
    obtain ⟨v12, ev12, hf⟩ := ob hf
    refine g_getI dX12_worked_57 ev12 t_2022 hin16 hc16 (by decide) rfl ?_
    refine g_sipush (v := 200) dX12_worked_60 (by decide) ?_
    refine g_icmp_ne (tgt := 79) dX12_worked_63 (by decide) (fun c13 => ?_) (fun c13 => ?_)
    · rw [if_neg c13] at hf
      refine g_aload_n (j := 2) dX12_worked_79 rfl rfl ?_
      obtain ⟨v14, ev14, hf⟩ := ob hf
      refine g_getF dX12_worked_80 ev14 t_2015 hin16 hc16 (by decide) rfl ?_
      refine g_aload_n (j := 2) dX12_worked_83 rfl rfl ?_
      obtain ⟨v15, ev15, hf⟩ := ob hf
      refine g_getI dX12_worked_84 ev15 t_2022 hin16 hc16 (by decide) rfl ?_
      refine g_bipush (v := 9) dX12_worked_87 (by decide) ?_
      obtain ⟨σ16, eσ16, hf⟩ := ob hf
      refine g_iast dX12_worked_89 eσ16 ?_
      refine g_aload_n (j := 2) dX12_worked_90 rfl rfl ?_
      obtain ⟨v17, ev17, hf⟩ := ob hf
      refine g_getF dX12_worked_91 ev17 t_2016 hin16 hc16 (by decide) rfl ?_
      refine g_aload_n (j := 2) dX12_worked_94 rfl rfl ?_
      obtain ⟨v18, ev18, hf⟩ := ob hf
      refine g_getI dX12_worked_95 ev18 t_2022 hin16 hc16 (by decide) rfl ?_
      refine g_iload (j := 0) dX12_worked_98 rfl ?_
      obtain ⟨σ19, eσ19, hf⟩ := ob hf
      refine g_iast dX12_worked_100 eσ19 ?_
      refine g_aload_n (j := 2) dX12_worked_101 rfl rfl ?_
      refine g_dup dX12_worked_102 (rv_cat _) ?_
      obtain ⟨v20, ev20, hf⟩ := ob hf
      refine g_getI dX12_worked_103 ev20 t_2022 hin16 hc16 (by decide) rfl ?_
      refine g_iconst (v := 1) dX12_worked_106 (by decide) ?_
      refine g_iadd dX12_worked_107 ?_
      obtain ⟨σ21, eσ21, hf⟩ := ob hf
      refine g_putI dX12_worked_108 eσ21 (Or.inl t_2022) hin16 hc16 (by decide) hty16 hnm16 (Or.inl rfl) rfl rfl rfl ?_
      refine g_aload_n (j := 2) dX12_worked_111 rfl rfl ?_
      obtain ⟨v22, ev22, hf⟩ := ob hf
      refine g_getF dX12_worked_112 ev22 t_2020 hin16 hc16 (by decide) rfl ?_
      refine g_iload_n (j := 1) dX12_worked_115 rfl rfl ?_
      obtain ⟨v23, ev23, hf⟩ := ob hf
      refine g_iald dX12_worked_116 ev23 ?_
      refine g_istore_n (i := 2) (L' := [(2, .int v23), (6, .int v11), (3, .int v9), (0, rv x0), (4, .int x4), (5, .int x5)]) dX12_worked_117 rfl (Nat.le_of_ble_eq_true rfl) rfl ?_
      refine g_aload_n (j := 3) dX12_worked_118 rfl rfl ?_
      obtain ⟨v24, ev24, hf⟩ := ob hf
      refine g_getF dX12_worked_119 ev24 t_2014 hin16 hc16 (by decide) rfl ?_
      refine g_iload_n (j := 0) dX12_worked_122 rfl rfl ?_
      refine g_iload (j := 1) dX12_worked_123 rfl ?_
      obtain ⟨σ25, eσ25, hf⟩ := ob hf
      refine g_iast dX12_worked_125 eσ25 ?_
      obtain ⟨v26, ev26, hf⟩ := nm_el hf
      refine g_iinc (L' := [(2, .int v26), (6, .int v11), (3, .int v9), (0, rv x0), (4, .int x4), (5, .int x5)]) (j := 0) (v := v26) dX12_worked_126 rfl (by rw [ev26]; rfl) (Nat.le_of_ble_eq_true rfl) rfl ?_
      refine g_aload_n (j := 3) dX12_worked_129 rfl rfl ?_
      obtain ⟨v27, ev27, hf⟩ := ob hf
      refine g_getF dX12_worked_130 ev27 t_2018 hin16 hc16 (by decide) rfl ?_
      refine g_iload_n (j := 2) dX12_worked_133 rfl rfl ?_
      obtain ⟨v28, ev28, hf⟩ := ob hf
      refine g_iald dX12_worked_134 ev28 ?_
      refine g_istore (i := 4) (L' := [(4, .int v28), (2, .int v26), (6, .int v11), (3, .int v9), (0, rv x0), (5, .int x5)]) dX12_worked_135 (Nat.le_of_ble_eq_true rfl) rfl ?_
      refine g_aload_n (j := 4) dX12_worked_137 rfl rfl ?_
      obtain ⟨v29, ev29, hf⟩ := ob hf
      refine g_getF dX12_worked_138 ev29 t_2019 hin16 hc16 (by decide) rfl ?_
      refine g_iload_n (j := 3) dX12_worked_141 rfl rfl ?_
      obtain ⟨v30, ev30, hf⟩ := ob hf
      refine g_iald dX12_worked_142 ev30 ?_
      refine g_istore (i := 5) (L' := [(5, .int v30), (4, .int v28), (2, .int v26), (6, .int v11), (3, .int v9), (0, rv x0)]) dX12_worked_143 (Nat.le_of_ble_eq_true rfl) rfl ?_
      refine g_goto (tgt := 25) dX12_worked_145 (by decide) ?_
      refine g_sub (L' := [(0, rv x0), (2, .int v26), (3, .int v9), (4, .int v28), (5, .int v30)]) [5, 2, 4, 1, 0] rfl ?_
      exact hk25 _ _ _ _ _ _ hf
    · rw [if_pos c13] at hf
      refine g_aload_n (j := 2) dX12_worked_66 rfl rfl ?_
      refine g_bipush (v := 8) dX12_worked_67 (by decide) ?_
      refine g_aload_n (j := 2) dX12_worked_69 rfl rfl ?_
      obtain ⟨v31, ev31, hf⟩ := ob hf
      refine g_getF dX12_worked_70 ev31 t_2021 hin16 hc16 (by decide) rfl ?_
      refine g_iload_n (j := 1) dX12_worked_73 rfl rfl ?_
      obtain ⟨v32, ev32, hf⟩ := ob hf
      refine g_iald dX12_worked_74 ev32 ?_
      obtain ⟨_, h35, hf⟩ := ob hf
      obtain ⟨σ33, v34, eσ33, hf⟩ := cb_el hf
      refine g_callV_i dX12_worked_75 (wX12_refusedStep _ eσ33) (okX12_refusedStep _ (by decide) (by decide)) (ckK_el h35) hc16 t_2407 t_2409 s_X12_refusedStep rfl (Nat.le_trans (cat_le _) (Nat.le_of_ble_eq_true rfl)) rfl ?_
      exact g_iret dX12_worked_78 rfl rfl hX2 hX1 hf

set_option maxRecDepth 100000 in
set_option maxHeartbeats 4000000 in
theorem bX12_worked_25 {X : Xt} {σf : St} {r : Int32} (hX1 : X.2.2.1 = σf) (hX2 : X.2.2.2 = .inl (some (.int r))) : ∀ (n : Nat) (σ : St) (x0 : Nat) (x2 : Int32) (x3 : Int32) (x4 : Int32) (x5 : Int32), fX12_worked_25 n σ x0 x2 x3 x4 x5 = some (σf, r) → G MtX12_worked X σ 25 [(0, rv x0), (2, .int x2), (3, .int x3), (4, .int x4), (5, .int x5)] [] := by
  intro n
  induction n with
  | zero => intro σ x0 x2 x3 x4 x5 hf; cases hf
  | succ n ih =>
    intro σ x0 x2 x3 x4 x5 hf
    rw [fX12_worked_25] at hf
    refine g_iload (j := 3) dX12_worked_25 rfl ?_
    refine g_iload (j := 4) dX12_worked_27 rfl ?_
    refine g_icmp_lt (tgt := 36) dX12_worked_29 (by decide) (fun c1 => ?_) (fun c1 => ?_)
    · rw [if_pos c1] at hf
      exact bX12_worked_36 hX1 hX2 (fun σ x0 x2 x3 x4 x5 hf => ih σ x0 x2 x3 x4 x5 hf) hf
    · rw [if_neg c1] at hf
      refine g_iload_n (j := 2) dX12_worked_32 rfl rfl ?_
      refine g_if_le (tgt := 477) dX12_worked_33 (by decide) (fun c2 => ?_) (fun c2 => ?_)
      · rw [if_pos c2] at hf
        refine g_aload_n (j := 0) dX12_worked_477 rfl rfl ?_
        obtain ⟨v3, ev3, hf⟩ := ob hf
        refine g_getF dX12_worked_478 ev3 t_2014 hin16 hc16 (by decide) rfl ?_
        refine g_iconst (v := 0) dX12_worked_481 (by decide) ?_
        obtain ⟨v4, ev4, hf⟩ := ob hf
        refine g_iald dX12_worked_482 ev4 ?_
        exact g_iret dX12_worked_483 rfl rfl hX2 hX1 hf
      · rw [if_neg c2] at hf
        exact bX12_worked_36 hX1 hX2 (fun σ x0 x2 x3 x4 x5 hf => ih σ x0 x2 x3 x4 x5 hf) hf

set_option maxRecDepth 100000 in
set_option maxHeartbeats 4000000 in
theorem wX12_worked (l : Launch) {σ σf : St} {x0 : Nat} {x1 : Int32} {r : Int32} (hf : fX12_worked σ x0 x1 = some (σf, r)) : Con MtX12_worked yX12_worked l σ [rv x0, .int x1] σf (some (.int r)) := by
  refine Con.of (by decide +kernel) rfl (fun h => absurd (show false = true from h) (by decide)) (by simp only [sl_n, sl_r, sl_i, sl_l]; exact Nat.le_of_ble_eq_true rfl) ?_
  rw [show lv_args 0 [rv x0, .int x1] = [(0, rv x0), (1, .int x1)] by simp only [la_n, la_r, la_i, la_l] <;> rfl]
  have hX1 : ((l, σ, σf, .inl (some (.int r))) : Xt).2.2.1 = σf := rfl
  have hX2 : ((l, σ, σf, .inl (some (.int r))) : Xt).2.2.2 = .inl (some (.int r)) := rfl
  unfold fX12_worked at hf
  refine g_iconst (v := 0) dX12_worked_0 (by decide) ?_
  refine g_istore_n (i := 2) (L' := [(2, .int 0), (0, rv x0), (1, .int x1)]) dX12_worked_1 rfl (Nat.le_of_ble_eq_true rfl) rfl ?_
  refine g_iconst (v := 0) dX12_worked_2 (by decide) ?_
  refine g_istore_n (i := 3) (L' := [(3, .int 0), (2, .int 0), (0, rv x0), (1, .int x1)]) dX12_worked_3 rfl (Nat.le_of_ble_eq_true rfl) rfl ?_
  refine g_aload_n (j := 2) dX12_worked_4 rfl rfl ?_
  obtain ⟨v1, ev1, hf⟩ := ob hf
  refine g_getF dX12_worked_5 ev1 t_1989 hin16 hc16 (by decide) rfl ?_
  refine g_iload_n (j := 3) dX12_worked_8 rfl rfl ?_
  obtain ⟨v2, ev2, hf⟩ := ob hf
  refine g_iald dX12_worked_9 ev2 ?_
  refine g_istore (i := 4) (L' := [(4, .int v2), (3, .int 0), (2, .int 0), (0, rv x0), (1, .int x1)]) dX12_worked_10 (Nat.le_of_ble_eq_true rfl) rfl ?_
  refine g_aload_n (j := 3) dX12_worked_12 rfl rfl ?_
  obtain ⟨v3, ev3, hf⟩ := ob hf
  refine g_getF dX12_worked_13 ev3 t_1990 hin16 hc16 (by decide) rfl ?_
  refine g_iload_n (j := 4) dX12_worked_16 rfl rfl ?_
  obtain ⟨v4, ev4, hf⟩ := ob hf
  refine g_iald dX12_worked_17 ev4 ?_
  refine g_istore (i := 5) (L' := [(5, .int v4), (4, .int v2), (3, .int 0), (2, .int 0), (0, rv x0), (1, .int x1)]) dX12_worked_18 (Nat.le_of_ble_eq_true rfl) rfl ?_
  refine g_aload_n (j := 4) dX12_worked_20 rfl rfl ?_
  refine g_iconst (v := 0) dX12_worked_21 (by decide) ?_
  obtain ⟨σ5, eσ5, hf⟩ := ob hf
  refine g_putI dX12_worked_22 eσ5 (Or.inl t_2022) hin16 hc16 (by decide) hty16 hnm16 (Or.inl rfl) rfl rfl rfl ?_
  refine g_sub (L' := [(0, rv x0), (2, .int 0), (3, .int 0), (4, .int v2), (5, .int v4)]) [4, 3, 2, 1, 0] rfl ?_
  exact bX12_worked_25 hX1 hX2 FU _ _ _ _ _ _ hf

theorem okX12_worked (M : Mt) (h1 : 8 + 1 ≤ M.2.2.2.2.1) (h2 : 8 + (11 + 11) + 262 ≤ M.2.2.2.2.2.1) : CallOk M MtX12_worked yX12_worked 1 := ⟨t_2406, h1, h2, ⟨by decide, by decide⟩, by decide +kernel, t_16⟩
abbrev MtX12_copiesValue : Mt := (cX12_copiesValue, 4, "ExactlySaidModel", none, 1, 84, false)
set_option maxRecDepth 100000 in
set_option maxHeartbeats 4000000 in
theorem bX12_copiesValue_14 {X : Xt} {σf : St} {r : Unit} (hX1 : X.2.2.1 = σf) (hX2 : X.2.2.2 = .inl (none)) : ∀ (n : Nat) (σ : St) (x0 : Nat) (x1 : Int32) (x2 : Int32) (x3 : Int32), fX12_copiesValue_14 n σ x0 x1 x2 x3 = some (σf, r) → G MtX12_copiesValue X σ 14 [(0, rv x0), (1, .int x1), (2, .int x2), (3, .int x3)] [] := by
  intro n
  induction n with
  | zero => intro σ x0 x1 x2 x3 hf; cases hf
  | succ n ih =>
    intro σ x0 x1 x2 x3 hf
    rw [fX12_copiesValue_14] at hf
    refine g_iload_n (j := 3) dX12_copiesValue_14 rfl rfl ?_
    refine g_bipush (v := 16) dX12_copiesValue_15 (by decide) ?_
    refine g_icmp_ge (tgt := 48) dX12_copiesValue_17 (by decide) (fun c1 => ?_) (fun c1 => ?_)
    · rw [if_pos c1] at hf
      exact g_vret dX12_copiesValue_48 rfl hX2 hX1 hf
    · rw [if_neg c1] at hf
      refine g_aload_n (j := 0) dX12_copiesValue_20 rfl rfl ?_
      obtain ⟨v2, ev2, hf⟩ := ob hf
      refine g_getF dX12_copiesValue_21 ev2 t_1971 hin16 hc16 (by decide) rfl ?_
      refine g_bipush (v := 16) dX12_copiesValue_24 (by decide) ?_
      refine g_iload_n (j := 1) dX12_copiesValue_26 rfl rfl ?_
      refine g_imul dX12_copiesValue_27 ?_
      refine g_iload_n (j := 3) dX12_copiesValue_28 rfl rfl ?_
      refine g_iadd dX12_copiesValue_29 ?_
      refine g_aload_n (j := 0) dX12_copiesValue_30 rfl rfl ?_
      obtain ⟨v3, ev3, hf⟩ := ob hf
      refine g_getF dX12_copiesValue_31 ev3 t_1971 hin16 hc16 (by decide) rfl ?_
      refine g_bipush (v := 16) dX12_copiesValue_34 (by decide) ?_
      refine g_iload_n (j := 2) dX12_copiesValue_36 rfl rfl ?_
      refine g_imul dX12_copiesValue_37 ?_
      refine g_iload_n (j := 3) dX12_copiesValue_38 rfl rfl ?_
      refine g_iadd dX12_copiesValue_39 ?_
      obtain ⟨v4, ev4, hf⟩ := ob hf
      refine g_iald dX12_copiesValue_40 ev4 ?_
      obtain ⟨σ5, eσ5, hf⟩ := ob hf
      refine g_iast dX12_copiesValue_41 eσ5 ?_
      obtain ⟨v6, ev6, hf⟩ := nm_el hf
      refine g_iinc (L' := [(3, .int v6), (0, rv x0), (1, .int x1), (2, .int x2)]) (j := 3) (v := v6) dX12_copiesValue_42 rfl (by rw [ev6]; rfl) (Nat.le_of_ble_eq_true rfl) rfl ?_
      refine g_goto (tgt := 14) dX12_copiesValue_45 (by decide) ?_
      refine g_sub (L' := [(0, rv x0), (1, .int x1), (2, .int x2), (3, .int v6)]) [1, 2, 3, 0] rfl ?_
      exact ih _ _ _ _ _ hf

set_option maxRecDepth 100000 in
set_option maxHeartbeats 4000000 in
theorem wX12_copiesValue (l : Launch) {σ σf : St} {x0 : Nat} {x1 : Int32} {x2 : Int32} {r : Unit} (hf : fX12_copiesValue σ x0 x1 x2 = some (σf, r)) : Con MtX12_copiesValue yX12_copiesValue l σ [rv x0, .int x1, .int x2] σf (none) := by
  refine Con.of (by decide +kernel) rfl (fun h => absurd (show false = true from h) (by decide)) (by simp only [sl_n, sl_r, sl_i, sl_l]; exact Nat.le_of_ble_eq_true rfl) ?_
  rw [show lv_args 0 [rv x0, .int x1, .int x2] = [(0, rv x0), (1, .int x1), (2, .int x2)] by simp only [la_n, la_r, la_i, la_l] <;> rfl]
  have hX1 : ((l, σ, σf, .inl (none)) : Xt).2.2.1 = σf := rfl
  have hX2 : ((l, σ, σf, .inl (none)) : Xt).2.2.2 = .inl (none) := rfl
  unfold fX12_copiesValue at hf
  refine g_aload_n (j := 0) dX12_copiesValue_0 rfl rfl ?_
  obtain ⟨v1, ev1, hf⟩ := ob hf
  refine g_getF dX12_copiesValue_1 ev1 t_1970 hin16 hc16 (by decide) rfl ?_
  refine g_iload_n (j := 1) dX12_copiesValue_4 rfl rfl ?_
  refine g_aload_n (j := 0) dX12_copiesValue_5 rfl rfl ?_
  obtain ⟨v2, ev2, hf⟩ := ob hf
  refine g_getF dX12_copiesValue_6 ev2 t_1970 hin16 hc16 (by decide) rfl ?_
  refine g_iload_n (j := 2) dX12_copiesValue_9 rfl rfl ?_
  obtain ⟨v3, ev3, hf⟩ := ob hf
  refine g_iald dX12_copiesValue_10 ev3 ?_
  obtain ⟨σ4, eσ4, hf⟩ := ob hf
  refine g_iast dX12_copiesValue_11 eσ4 ?_
  refine g_iconst (v := 0) dX12_copiesValue_12 (by decide) ?_
  refine g_istore_n (i := 3) (L' := [(3, .int 0), (0, rv x0), (1, .int x1), (2, .int x2)]) dX12_copiesValue_13 rfl (Nat.le_of_ble_eq_true rfl) rfl ?_
  refine g_sub (L' := [(0, rv x0), (1, .int x1), (2, .int x2), (3, .int 0)]) [1, 2, 3, 0] rfl ?_
  exact bX12_copiesValue_14 hX1 hX2 FU _ _ _ _ _ hf

theorem okX12_copiesValue (M : Mt) (h1 : 1 + 1 ≤ M.2.2.2.2.1) (h2 : 8 + (4 + 11) + 84 ≤ M.2.2.2.2.2.1) : CallOk M MtX12_copiesValue yX12_copiesValue 2 := ⟨t_2486, h1, h2, ⟨by decide, by decide⟩, by decide +kernel, t_16⟩
abbrev MtX12_keeps : Mt := (cX12_keeps, 3, "ExactlySaidModel", (Option.some Jvm.ClassFile.FieldType.int), 2, 107, false)
set_option maxRecDepth 100000 in
set_option maxHeartbeats 4000000 in
theorem wX12_keeps (l : Launch) {σ σf : St} {x0 : Nat} {x1 : Int32} {r : Int32} (hf : fX12_keeps σ x0 x1 = some (σf, r)) : Con MtX12_keeps yX12_keeps l σ [rv x0, .int x1] σf (some (.int r)) := by
  refine Con.of (by decide +kernel) rfl (fun h => absurd (show false = true from h) (by decide)) (by simp only [sl_n, sl_r, sl_i, sl_l]; exact Nat.le_of_ble_eq_true rfl) ?_
  rw [show lv_args 0 [rv x0, .int x1] = [(0, rv x0), (1, .int x1)] by simp only [la_n, la_r, la_i, la_l] <;> rfl]
  have hX1 : ((l, σ, σf, .inl (some (.int r))) : Xt).2.2.1 = σf := rfl
  have hX2 : ((l, σ, σf, .inl (some (.int r))) : Xt).2.2.2 = .inl (some (.int r)) := rfl
  unfold fX12_keeps at hf
  refine g_iload_n (j := 1) dX12_keeps_0 rfl rfl ?_
  refine g_sipush (v := 600) dX12_keeps_1 (by decide) ?_
  refine g_icmp_lt (tgt := 9) dX12_keeps_4 (by decide) (fun c1 => ?_) (fun c1 => ?_)
  · rw [if_pos c1] at hf
    refine g_aload_n (j := 0) dX12_keeps_9 rfl rfl ?_
    obtain ⟨_, h4, hf⟩ := ob hf
    obtain ⟨σ2, v3, eσ2, hf⟩ := cb_el hf
    refine g_callV_i dX12_keeps_10 (wX12_newValue _ eσ2) (okX12_newValue _ (by decide) (by decide)) (ckK_el h4) hc16 t_1907 t_1909 s_X12_newValue rfl (Nat.le_trans (cat_le _) (Nat.le_of_ble_eq_true rfl)) rfl ?_
    refine g_istore_n (i := 2) (L' := [(2, .int v3), (0, rv x0), (1, .int x1)]) dX12_keeps_13 rfl (Nat.le_of_ble_eq_true rfl) rfl ?_
    refine g_aload_n (j := 1) dX12_keeps_14 rfl rfl ?_
    refine g_iload_n (j := 0) dX12_keeps_15 rfl rfl ?_
    refine g_iload_n (j := 2) dX12_keeps_16 rfl rfl ?_
    obtain ⟨_, h7, hf⟩ := ob hf
    obtain ⟨σ5, v6, eσ5, hf⟩ := cb_el hf
    refine g_callV_v dX12_keeps_17 (wX12_copiesValue _ eσ5) (okX12_copiesValue _ (by decide) (by decide)) (ckK_el h7) hc16 t_2483 t_2485 s_X12_copiesValue rfl (Nat.le_trans (cat_le _) (Nat.le_of_ble_eq_true rfl)) rfl ?_
    refine g_iload_n (j := 0) dX12_keeps_20 rfl rfl ?_
    exact g_iret dX12_keeps_21 rfl rfl hX2 hX1 hf
  · rw [if_neg c1] at hf
    refine g_iload_n (j := 1) dX12_keeps_7 rfl rfl ?_
    exact g_iret dX12_keeps_8 rfl rfl hX2 hX1 hf

theorem okX12_keeps (M : Mt) (h1 : 2 + 1 ≤ M.2.2.2.2.1) (h2 : 8 + (3 + 11) + 107 ≤ M.2.2.2.2.2.1) : CallOk M MtX12_keeps yX12_keeps 1 := ⟨t_2482, h1, h2, ⟨by decide, by decide⟩, by decide +kernel, t_16⟩
abbrev MtX12_remembers : Mt := (cX12_remembers, 2, "ExactlySaidModel", none, 1, 84, false)
set_option maxRecDepth 100000 in
set_option maxHeartbeats 4000000 in
theorem bX12_remembers_2 {X : Xt} {σf : St} {r : Unit} (hX1 : X.2.2.1 = σf) (hX2 : X.2.2.2 = .inl (none)) : ∀ (n : Nat) (σ : St) (x0 : Nat) (x1 : Int32), fX12_remembers_2 n σ x0 x1 = some (σf, r) → G MtX12_remembers X σ 2 [(0, rv x0), (1, .int x1)] [] := by
  intro n
  induction n with
  | zero => intro σ x0 x1 hf; cases hf
  | succ n ih =>
    intro σ x0 x1 hf
    rw [fX12_remembers_2] at hf
    refine g_iload_n (j := 1) dX12_remembers_2 rfl rfl ?_
    refine g_bipush (v := 30) dX12_remembers_3 (by decide) ?_
    refine g_icmp_ge (tgt := 50) dX12_remembers_5 (by decide) (fun c1 => ?_) (fun c1 => ?_)
    · rw [if_pos c1] at hf
      refine g_aload_n (j := 0) dX12_remembers_50 rfl rfl ?_
      refine g_aload_n (j := 0) dX12_remembers_51 rfl rfl ?_
      obtain ⟨v2, ev2, hf⟩ := ob hf
      refine g_getI dX12_remembers_52 ev2 t_2007 hin16 hc16 (by decide) rfl ?_
      obtain ⟨σ3, eσ3, hf⟩ := ob hf
      refine g_putI dX12_remembers_55 eσ3 (Or.inl t_2028) hin16 hc16 (by decide) hty16 hnm16 (Or.inl rfl) rfl rfl rfl ?_
      refine g_aload_n (j := 0) dX12_remembers_58 rfl rfl ?_
      refine g_aload_n (j := 0) dX12_remembers_59 rfl rfl ?_
      obtain ⟨v4, ev4, hf⟩ := ob hf
      refine g_getI dX12_remembers_60 ev4 t_2008 hin16 hc16 (by decide) rfl ?_
      obtain ⟨σ5, eσ5, hf⟩ := ob hf
      refine g_putI dX12_remembers_63 eσ5 (Or.inl t_2029) hin16 hc16 (by decide) hty16 hnm16 (Or.inl rfl) rfl rfl rfl ?_
      exact g_vret dX12_remembers_66 rfl hX2 hX1 hf
    · rw [if_neg c1] at hf
      refine g_aload_n (j := 0) dX12_remembers_8 rfl rfl ?_
      obtain ⟨v6, ev6, hf⟩ := ob hf
      refine g_getF dX12_remembers_9 ev6 t_2025 hin16 hc16 (by decide) rfl ?_
      refine g_iload_n (j := 1) dX12_remembers_12 rfl rfl ?_
      refine g_aload_n (j := 0) dX12_remembers_13 rfl rfl ?_
      obtain ⟨v7, ev7, hf⟩ := ob hf
      refine g_getF dX12_remembers_14 ev7 t_2004 hin16 hc16 (by decide) rfl ?_
      refine g_iload_n (j := 1) dX12_remembers_17 rfl rfl ?_
      obtain ⟨v8, ev8, hf⟩ := ob hf
      refine g_iald dX12_remembers_18 ev8 ?_
      obtain ⟨σ9, eσ9, hf⟩ := ob hf
      refine g_iast dX12_remembers_19 eσ9 ?_
      refine g_aload_n (j := 0) dX12_remembers_20 rfl rfl ?_
      obtain ⟨v10, ev10, hf⟩ := ob hf
      refine g_getF dX12_remembers_21 ev10 t_2026 hin16 hc16 (by decide) rfl ?_
      refine g_iload_n (j := 1) dX12_remembers_24 rfl rfl ?_
      refine g_aload_n (j := 0) dX12_remembers_25 rfl rfl ?_
      obtain ⟨v11, ev11, hf⟩ := ob hf
      refine g_getF dX12_remembers_26 ev11 t_2005 hin16 hc16 (by decide) rfl ?_
      refine g_iload_n (j := 1) dX12_remembers_29 rfl rfl ?_
      obtain ⟨v12, ev12, hf⟩ := ob hf
      refine g_iald dX12_remembers_30 ev12 ?_
      obtain ⟨σ13, eσ13, hf⟩ := ob hf
      refine g_iast dX12_remembers_31 eσ13 ?_
      refine g_aload_n (j := 0) dX12_remembers_32 rfl rfl ?_
      obtain ⟨v14, ev14, hf⟩ := ob hf
      refine g_getF dX12_remembers_33 ev14 t_2027 hin16 hc16 (by decide) rfl ?_
      refine g_iload_n (j := 1) dX12_remembers_36 rfl rfl ?_
      refine g_aload_n (j := 0) dX12_remembers_37 rfl rfl ?_
      obtain ⟨v15, ev15, hf⟩ := ob hf
      refine g_getF dX12_remembers_38 ev15 t_2006 hin16 hc16 (by decide) rfl ?_
      refine g_iload_n (j := 1) dX12_remembers_41 rfl rfl ?_
      obtain ⟨v16, ev16, hf⟩ := ob hf
      refine g_iald dX12_remembers_42 ev16 ?_
      obtain ⟨σ17, eσ17, hf⟩ := ob hf
      refine g_iast dX12_remembers_43 eσ17 ?_
      obtain ⟨v18, ev18, hf⟩ := nm_el hf
      refine g_iinc (L' := [(1, .int v18), (0, rv x0)]) (j := 1) (v := v18) dX12_remembers_44 rfl (by rw [ev18]; rfl) (Nat.le_of_ble_eq_true rfl) (by simp [rv_cat]) ?_
      refine g_goto (tgt := 2) dX12_remembers_47 (by decide) ?_
      refine g_sub (L' := [(0, rv x0), (1, .int v18)]) [1, 0] rfl ?_
      exact ih _ _ _ hf

set_option maxRecDepth 100000 in
set_option maxHeartbeats 4000000 in
theorem wX12_remembers (l : Launch) {σ σf : St} {x0 : Nat} {r : Unit} (hf : fX12_remembers σ x0 = some (σf, r)) : Con MtX12_remembers yX12_remembers l σ [rv x0] σf (none) := by
  refine Con.of (by decide +kernel) rfl (fun h => absurd (show false = true from h) (by decide)) (by simp only [sl_n, sl_r, sl_i, sl_l]; exact Nat.le_of_ble_eq_true rfl) ?_
  rw [show lv_args 0 [rv x0] = [(0, rv x0)] by simp only [la_n, la_r, la_i, la_l] <;> rfl]
  have hX1 : ((l, σ, σf, .inl (none)) : Xt).2.2.1 = σf := rfl
  have hX2 : ((l, σ, σf, .inl (none)) : Xt).2.2.2 = .inl (none) := rfl
  unfold fX12_remembers at hf
  refine g_iconst (v := 0) dX12_remembers_0 (by decide) ?_
  refine g_istore_n (i := 1) (L' := [(1, .int 0), (0, rv x0)]) dX12_remembers_1 rfl (Nat.le_of_ble_eq_true rfl) (by simp [rv_cat]) ?_
  refine g_sub (L' := [(0, rv x0), (1, .int 0)]) [1, 0] rfl ?_
  exact bX12_remembers_2 hX1 hX2 FU _ _ _ hf

theorem okX12_remembers (M : Mt) (h1 : 1 + 1 ≤ M.2.2.2.2.1) (h2 : 8 + (2 + 11) + 84 ≤ M.2.2.2.2.2.1) : CallOk M MtX12_remembers yX12_remembers 0 := ⟨t_2490, h1, h2, ⟨by decide, by decide⟩, by decide +kernel, t_16⟩
abbrev MtX12_writesState : Mt := (cX12_writesState, 6, "ExactlySaidModel", none, 1, 84, false)
set_option maxRecDepth 100000 in
set_option maxHeartbeats 4000000 in
theorem bX12_writesState_99 {X : Xt} {σf : St} {r : Unit} (hX1 : X.2.2.1 = σf) (hX2 : X.2.2.2 = .inl (none)) {k77 : St → Nat → Nat → Int32 → Int32 → Option (St × Unit)} (hk77 : ∀ (σ : St) (x0 : Nat) (x1 : Nat) (x3 : Int32) (x4 : Int32), k77 σ x0 x1 x3 x4 = some (σf, r) → G MtX12_writesState X σ 77 [(0, rv x0), (1, rv x1), (3, .int x3), (4, .int x4)] []) : ∀ (n : Nat) (σ : St) (x0 : Nat) (x1 : Nat) (x3 : Int32) (x4 : Int32) (x5 : Int32), fX12_writesState_99 k77 n σ x0 x1 x3 x4 x5 = some (σf, r) → G MtX12_writesState X σ 99 [(0, rv x0), (1, rv x1), (3, .int x3), (4, .int x4), (5, .int x5)] [] := by
  intro n
  induction n with
  | zero => intro σ x0 x1 x3 x4 x5 hf; cases hf
  | succ n ih =>
    intro σ x0 x1 x3 x4 x5 hf
    rw [fX12_writesState_99] at hf
    refine g_iload (j := 4) dX12_writesState_99 rfl ?_
    refine g_bipush (v := 50) dX12_writesState_101 (by decide) ?_
    refine g_icmp_ge (tgt := 131) dX12_writesState_103 (by decide) (fun c1 => ?_) (fun c1 => ?_)
    · rw [if_pos c1] at hf
      obtain ⟨v2, ev2, hf⟩ := nm_el hf
      refine g_iinc (L' := [(4, .int v2), (0, rv x0), (1, rv x1), (3, .int x3), (5, .int x5)]) (j := 3) (v := v2) dX12_writesState_131 rfl (by rw [ev2]; rfl) (Nat.le_of_ble_eq_true rfl) rfl ?_
      refine g_goto (tgt := 77) dX12_writesState_134 (by decide) ?_
      refine g_sub (L' := [(0, rv x0), (1, rv x1), (3, .int x3), (4, .int v2)]) [1, 2, 3, 0] rfl ?_
      exact hk77 _ _ _ _ _ hf
    · rw [if_neg c1] at hf
      refine g_aload_n (j := 1) dX12_writesState_106 rfl rfl ?_
      refine g_iload_n (j := 2) dX12_writesState_107 rfl rfl ?_
      refine g_aload_n (j := 0) dX12_writesState_108 rfl rfl ?_
      obtain ⟨v3, ev3, hf⟩ := ob hf
      refine g_getF dX12_writesState_109 ev3 t_2034 hin16 hc16 (by decide) rfl ?_
      refine g_bipush (v := 50) dX12_writesState_112 (by decide) ?_
      refine g_iload (j := 3) dX12_writesState_114 rfl ?_
      refine g_imul dX12_writesState_116 ?_
      refine g_iload (j := 4) dX12_writesState_117 rfl ?_
      refine g_iadd dX12_writesState_119 ?_
      obtain ⟨v4, ev4, hf⟩ := ob hf
      refine g_iald dX12_writesState_120 ev4 ?_
      obtain ⟨σ5, eσ5, hf⟩ := ob hf
      refine g_iast dX12_writesState_121 eσ5 ?_
      obtain ⟨v6, ev6, hf⟩ := nm_el hf
      refine g_iinc (L' := [(3, .int v6), (0, rv x0), (1, rv x1), (4, .int x4), (5, .int x5)]) (j := 2) (v := v6) dX12_writesState_122 rfl (by rw [ev6]; rfl) (Nat.le_of_ble_eq_true rfl) rfl ?_
      obtain ⟨v7, ev7, hf⟩ := nm_el hf
      refine g_iinc (L' := [(5, .int v7), (3, .int v6), (0, rv x0), (1, rv x1), (4, .int x4)]) (j := 4) (v := v7) dX12_writesState_125 rfl (by rw [ev7]; rfl) (Nat.le_of_ble_eq_true rfl) rfl ?_
      refine g_goto (tgt := 99) dX12_writesState_128 (by decide) ?_
      refine g_sub (L' := [(0, rv x0), (1, rv x1), (3, .int v6), (4, .int x4), (5, .int v7)]) [2, 3, 1, 4, 0] rfl ?_
      exact ih _ _ _ _ _ _ hf

set_option maxRecDepth 100000 in
set_option maxHeartbeats 4000000 in
theorem bX12_writesState_77 {X : Xt} {σf : St} {r : Unit} (hX1 : X.2.2.1 = σf) (hX2 : X.2.2.2 = .inl (none)) : ∀ (n : Nat) (σ : St) (x0 : Nat) (x1 : Nat) (x3 : Int32) (x4 : Int32), fX12_writesState_77 n σ x0 x1 x3 x4 = some (σf, r) → G MtX12_writesState X σ 77 [(0, rv x0), (1, rv x1), (3, .int x3), (4, .int x4)] [] := by
  intro n
  induction n with
  | zero => intro σ x0 x1 x3 x4 hf; cases hf
  | succ n ih =>
    intro σ x0 x1 x3 x4 hf
    rw [fX12_writesState_77] at hf
    refine g_iload (j := 3) dX12_writesState_77 rfl ?_
    refine g_iconst (v := 3) dX12_writesState_79 (by decide) ?_
    refine g_icmp_ge (tgt := 137) dX12_writesState_80 (by decide) (fun c1 => ?_) (fun c1 => ?_)
    · rw [if_pos c1] at hf
      exact g_vret dX12_writesState_137 rfl hX2 hX1 hf
    · rw [if_neg c1] at hf
      refine g_aload_n (j := 1) dX12_writesState_83 rfl rfl ?_
      refine g_iload_n (j := 2) dX12_writesState_84 rfl rfl ?_
      refine g_aload_n (j := 0) dX12_writesState_85 rfl rfl ?_
      obtain ⟨v2, ev2, hf⟩ := ob hf
      refine g_getF dX12_writesState_86 ev2 t_2035 hin16 hc16 (by decide) rfl ?_
      refine g_iload (j := 3) dX12_writesState_89 rfl ?_
      obtain ⟨v3, ev3, hf⟩ := ob hf
      refine g_iald dX12_writesState_91 ev3 ?_
      obtain ⟨σ4, eσ4, hf⟩ := ob hf
      refine g_iast dX12_writesState_92 eσ4 ?_
      obtain ⟨v5, ev5, hf⟩ := nm_el hf
      refine g_iinc (L' := [(3, .int v5), (0, rv x0), (1, rv x1), (4, .int x4)]) (j := 2) (v := v5) dX12_writesState_93 rfl (by rw [ev5]; rfl) (Nat.le_of_ble_eq_true rfl) rfl ?_
      refine g_iconst (v := 0) dX12_writesState_96 (by decide) ?_
      refine g_istore (i := 5) (L' := [(5, .int 0), (3, .int v5), (0, rv x0), (1, rv x1), (4, .int x4)]) dX12_writesState_97 (Nat.le_of_ble_eq_true rfl) rfl ?_
      refine g_sub (L' := [(0, rv x0), (1, rv x1), (3, .int v5), (4, .int x4), (5, .int 0)]) [2, 3, 1, 4, 0] rfl ?_
      exact bX12_writesState_99 hX1 hX2 (fun σ x0 x1 x3 x4 hf => ih σ x0 x1 x3 x4 hf) FU _ _ _ _ _ _ hf

set_option maxRecDepth 100000 in
set_option maxHeartbeats 4000000 in
theorem bX12_writesState_24 {X : Xt} {σf : St} {r : Unit} (hX1 : X.2.2.1 = σf) (hX2 : X.2.2.2 = .inl (none)) : ∀ (n : Nat) (σ : St) (x0 : Nat) (x1 : Nat) (x3 : Int32) (x4 : Int32), fX12_writesState_24 n σ x0 x1 x3 x4 = some (σf, r) → G MtX12_writesState X σ 24 [(0, rv x0), (1, rv x1), (3, .int x3), (4, .int x4)] [] := by
  intro n
  induction n with
  | zero => intro σ x0 x1 x3 x4 hf; cases hf
  | succ n ih =>
    intro σ x0 x1 x3 x4 hf
    rw [fX12_writesState_24] at hf
    refine g_iload (j := 3) dX12_writesState_24 rfl ?_
    refine g_bipush (v := 30) dX12_writesState_26 (by decide) ?_
    refine g_icmp_ge (tgt := 74) dX12_writesState_28 (by decide) (fun c1 => ?_) (fun c1 => ?_)
    · rw [if_pos c1] at hf
      refine g_iconst (v := 0) dX12_writesState_74 (by decide) ?_
      refine g_istore (i := 4) (L' := [(4, .int 0), (0, rv x0), (1, rv x1), (3, .int x3)]) dX12_writesState_75 (Nat.le_of_ble_eq_true rfl) rfl ?_
      refine g_sub (L' := [(0, rv x0), (1, rv x1), (3, .int x3), (4, .int 0)]) [1, 2, 3, 0] rfl ?_
      exact bX12_writesState_77 hX1 hX2 FU _ _ _ _ _ hf
    · rw [if_neg c1] at hf
      refine g_aload_n (j := 1) dX12_writesState_31 rfl rfl ?_
      refine g_iload_n (j := 2) dX12_writesState_32 rfl rfl ?_
      refine g_aload_n (j := 0) dX12_writesState_33 rfl rfl ?_
      obtain ⟨v2, ev2, hf⟩ := ob hf
      refine g_getF dX12_writesState_34 ev2 t_2004 hin16 hc16 (by decide) rfl ?_
      refine g_iload (j := 3) dX12_writesState_37 rfl ?_
      obtain ⟨v3, ev3, hf⟩ := ob hf
      refine g_iald dX12_writesState_39 ev3 ?_
      obtain ⟨σ4, eσ4, hf⟩ := ob hf
      refine g_iast dX12_writesState_40 eσ4 ?_
      refine g_aload_n (j := 1) dX12_writesState_41 rfl rfl ?_
      refine g_iload_n (j := 2) dX12_writesState_42 rfl rfl ?_
      refine g_iconst (v := 1) dX12_writesState_43 (by decide) ?_
      refine g_iadd dX12_writesState_44 ?_
      refine g_aload_n (j := 0) dX12_writesState_45 rfl rfl ?_
      obtain ⟨v5, ev5, hf⟩ := ob hf
      refine g_getF dX12_writesState_46 ev5 t_2005 hin16 hc16 (by decide) rfl ?_
      refine g_iload (j := 3) dX12_writesState_49 rfl ?_
      obtain ⟨v6, ev6, hf⟩ := ob hf
      refine g_iald dX12_writesState_51 ev6 ?_
      obtain ⟨σ7, eσ7, hf⟩ := ob hf
      refine g_iast dX12_writesState_52 eσ7 ?_
      refine g_aload_n (j := 1) dX12_writesState_53 rfl rfl ?_
      refine g_iload_n (j := 2) dX12_writesState_54 rfl rfl ?_
      refine g_iconst (v := 2) dX12_writesState_55 (by decide) ?_
      refine g_iadd dX12_writesState_56 ?_
      refine g_aload_n (j := 0) dX12_writesState_57 rfl rfl ?_
      obtain ⟨v8, ev8, hf⟩ := ob hf
      refine g_getF dX12_writesState_58 ev8 t_2006 hin16 hc16 (by decide) rfl ?_
      refine g_iload (j := 3) dX12_writesState_61 rfl ?_
      obtain ⟨v9, ev9, hf⟩ := ob hf
      refine g_iald dX12_writesState_63 ev9 ?_
      obtain ⟨σ10, eσ10, hf⟩ := ob hf
      refine g_iast dX12_writesState_64 eσ10 ?_
      obtain ⟨v11, ev11, hf⟩ := nm_el hf
      refine g_iinc (L' := [(3, .int v11), (0, rv x0), (1, rv x1), (4, .int x4)]) (j := 2) (v := v11) dX12_writesState_65 rfl (by rw [ev11]; rfl) (Nat.le_of_ble_eq_true rfl) rfl ?_
      obtain ⟨v12, ev12, hf⟩ := nm_el hf
      refine g_iinc (L' := [(4, .int v12), (3, .int v11), (0, rv x0), (1, rv x1)]) (j := 3) (v := v12) dX12_writesState_68 rfl (by rw [ev12]; rfl) (Nat.le_of_ble_eq_true rfl) rfl ?_
      refine g_goto (tgt := 24) dX12_writesState_71 (by decide) ?_
      refine g_sub (L' := [(0, rv x0), (1, rv x1), (3, .int v11), (4, .int v12)]) [2, 3, 1, 0] rfl ?_
      exact ih _ _ _ _ _ hf

set_option maxRecDepth 100000 in
set_option maxHeartbeats 4000000 in
theorem wX12_writesState (l : Launch) {σ σf : St} {x0 : Nat} {x1 : Nat} {x2 : Int32} {r : Unit} (hf : fX12_writesState σ x0 x1 x2 = some (σf, r)) : Con MtX12_writesState yX12_writesState l σ [rv x0, rv x1, .int x2] σf (none) := by
  refine Con.of (by decide +kernel) rfl (fun h => absurd (show false = true from h) (by decide)) (by simp only [sl_n, sl_r, sl_i, sl_l]; exact Nat.le_of_ble_eq_true rfl) ?_
  rw [show lv_args 0 [rv x0, rv x1, .int x2] = [(0, rv x0), (1, rv x1), (2, .int x2)] by simp only [la_n, la_r, la_i, la_l] <;> rfl]
  have hX1 : ((l, σ, σf, .inl (none)) : Xt).2.2.1 = σf := rfl
  have hX2 : ((l, σ, σf, .inl (none)) : Xt).2.2.2 = .inl (none) := rfl
  unfold fX12_writesState at hf
  refine g_iload_n (j := 2) dX12_writesState_0 rfl rfl ?_
  refine g_istore_n (i := 3) (L' := [(3, .int x2), (0, rv x0), (1, rv x1), (2, .int x2)]) dX12_writesState_1 rfl (Nat.le_of_ble_eq_true rfl) rfl ?_
  refine g_aload_n (j := 2) dX12_writesState_2 rfl rfl ?_
  refine g_iload_n (j := 0) dX12_writesState_3 rfl rfl ?_
  refine g_aload_n (j := 1) dX12_writesState_4 rfl rfl ?_
  obtain ⟨v1, ev1, hf⟩ := ob hf
  refine g_getI dX12_writesState_5 ev1 t_2007 hin16 hc16 (by decide) rfl ?_
  obtain ⟨σ2, eσ2, hf⟩ := ob hf
  refine g_iast dX12_writesState_8 eσ2 ?_
  refine g_aload_n (j := 2) dX12_writesState_9 rfl rfl ?_
  refine g_iload_n (j := 0) dX12_writesState_10 rfl rfl ?_
  refine g_iconst (v := 1) dX12_writesState_11 (by decide) ?_
  refine g_iadd dX12_writesState_12 ?_
  refine g_aload_n (j := 1) dX12_writesState_13 rfl rfl ?_
  obtain ⟨v3, ev3, hf⟩ := ob hf
  refine g_getI dX12_writesState_14 ev3 t_2008 hin16 hc16 (by decide) rfl ?_
  obtain ⟨σ4, eσ4, hf⟩ := ob hf
  refine g_iast dX12_writesState_17 eσ4 ?_
  obtain ⟨v5, ev5, hf⟩ := nm_el hf
  refine g_iinc (L' := [(3, .int v5), (0, rv x0), (1, rv x1), (2, .int x2)]) (j := 0) (v := v5) dX12_writesState_18 rfl (by rw [ev5]; rfl) (Nat.le_of_ble_eq_true rfl) rfl ?_
  refine g_iconst (v := 0) dX12_writesState_21 (by decide) ?_
  refine g_istore (i := 4) (L' := [(4, .int 0), (3, .int v5), (0, rv x0), (1, rv x1), (2, .int x2)]) dX12_writesState_22 (Nat.le_of_ble_eq_true rfl) rfl ?_
  refine g_sub (L' := [(0, rv x0), (1, rv x1), (3, .int v5), (4, .int 0)]) [2, 3, 1, 0] rfl ?_
  exact bX12_writesState_24 hX1 hX2 FU _ _ _ _ _ hf

theorem okX12_writesState (M : Mt) (h1 : 1 + 1 ≤ M.2.2.2.2.1) (h2 : 8 + (6 + 11) + 84 ≤ M.2.2.2.2.2.1) : CallOk M MtX12_writesState yX12_writesState 2 := ⟨t_2498, h1, h2, ⟨by decide, by decide⟩, by decide +kernel, t_16⟩
abbrev MtX12_saves : Mt := (cX12_saves, 1, "ExactlySaidModel", none, 2, 109, false)
set_option maxRecDepth 100000 in
set_option maxHeartbeats 4000000 in
theorem wX12_saves (l : Launch) {σ σf : St} {x0 : Nat} {r : Unit} (hf : fX12_saves σ x0 = some (σf, r)) : Con MtX12_saves yX12_saves l σ [rv x0] σf (none) := by
  refine Con.of (by decide +kernel) rfl (fun h => absurd (show false = true from h) (by decide)) (by simp only [sl_n, sl_r, sl_i, sl_l]; exact Nat.le_of_ble_eq_true rfl) ?_
  rw [show lv_args 0 [rv x0] = [(0, rv x0)] by simp only [la_n, la_r, la_i, la_l] <;> rfl]
  have hX1 : ((l, σ, σf, .inl (none)) : Xt).2.2.1 = σf := rfl
  have hX2 : ((l, σ, σf, .inl (none)) : Xt).2.2.2 = .inl (none) := rfl
  unfold fX12_saves at hf
  refine g_aload_n (j := 0) dX12_saves_0 rfl rfl ?_
  refine g_aload_n (j := 0) dX12_saves_1 rfl rfl ?_
  obtain ⟨v1, ev1, hf⟩ := ob hf
  refine g_getF dX12_saves_2 ev1 t_2036 hin16 hc16 (by decide) rfl ?_
  refine g_iconst (v := 0) dX12_saves_5 (by decide) ?_
  obtain ⟨_, h4, hf⟩ := ob hf
  obtain ⟨σ2, v3, eσ2, hf⟩ := cb_el hf
  refine g_callV_v dX12_saves_6 (wX12_writesState _ eσ2) (okX12_writesState _ (by decide) (by decide)) (ckK_el h4) hc16 t_2495 t_2497 s_X12_writesState rfl (Nat.le_trans (cat_le _) (Nat.le_of_ble_eq_true rfl)) rfl ?_
  exact g_vret dX12_saves_9 rfl hX2 hX1 hf

theorem okX12_saves (M : Mt) (h1 : 2 + 1 ≤ M.2.2.2.2.1) (h2 : 8 + (1 + 11) + 109 ≤ M.2.2.2.2.2.1) : CallOk M MtX12_saves yX12_saves 0 := ⟨t_2494, h1, h2, ⟨by decide, by decide⟩, by decide +kernel, t_16⟩
abbrev MtX12_placed : Mt := (cX12_placed, 3, "ExactlySaidModel", (Option.some Jvm.ClassFile.FieldType.int), 2, 108, false)
set_option maxRecDepth 100000 in
set_option maxHeartbeats 4000000 in
theorem bX12_placed_76 {X : Xt} {σf : St} {r : Int32} (hX1 : X.2.2.1 = σf) (hX2 : X.2.2.2 = .inl (some (.int r))) {σ : St} {x0 : Nat} {x1 : Int32} {x2 : Int32} (hf : fX12_placed_76 σ x0 x1 x2 = some (σf, r)) : G MtX12_placed X σ 76 [(0, rv x0), (1, .int x1), (2, .int x2)] [] := by
  unfold fX12_placed_76 at hf
  refine g_aload_n (j := 0) dX12_placed_76 rfl rfl ?_
  obtain ⟨v1, ev1, hf⟩ := ob hf
  refine g_getF dX12_placed_77 ev1 t_2004 hin16 hc16 (by decide) rfl ?_
  refine g_iload_n (j := 2) dX12_placed_80 rfl rfl ?_
  refine g_aload_n (j := 0) dX12_placed_81 rfl rfl ?_
  obtain ⟨v2, ev2, hf⟩ := ob hf
  refine g_getI dX12_placed_82 ev2 t_2000 hin16 hc16 (by decide) rfl ?_
  obtain ⟨σ3, eσ3, hf⟩ := ob hf
  refine g_iast dX12_placed_85 eσ3 ?_
  refine g_aload_n (j := 0) dX12_placed_86 rfl rfl ?_
  obtain ⟨v4, ev4, hf⟩ := ob hf
  refine g_getF dX12_placed_87 ev4 t_2005 hin16 hc16 (by decide) rfl ?_
  refine g_iload_n (j := 2) dX12_placed_90 rfl rfl ?_
  refine g_iload_n (j := 1) dX12_placed_91 rfl rfl ?_
  obtain ⟨σ5, eσ5, hf⟩ := ob hf
  refine g_iast dX12_placed_92 eσ5 ?_
  refine g_iload_n (j := 2) dX12_placed_93 rfl rfl ?_
  exact g_iret dX12_placed_94 rfl rfl hX2 hX1 hf

set_option maxRecDepth 100000 in
set_option maxHeartbeats 4000000 in
theorem bX12_placed_53 {X : Xt} {σf : St} {r : Int32} (hX1 : X.2.2.1 = σf) (hX2 : X.2.2.2 = .inl (some (.int r))) {σ : St} {x0 : Nat} {x1 : Int32} {x2 : Int32} (hf : fX12_placed_53 σ x0 x1 x2 = some (σf, r)) : G MtX12_placed X σ 53 [(0, rv x0), (1, .int x1), (2, .int x2)] [] := by
  unfold fX12_placed_53 at hf
  refine g_iload_n (j := 2) dX12_placed_53 rfl rfl ?_
  refine g_iconst (v := (-1)) dX12_placed_54 (by decide) ?_
  refine g_icmp_ne (tgt := 76) dX12_placed_55 (by decide) (fun c1 => ?_) (fun c1 => ?_)
  · rw [if_neg c1] at hf
    exact bX12_placed_76 hX1 hX2 hf
  · rw [if_pos c1] at hf
    refine g_bipush (v := 20) dX12_placed_58 (by decide) ?_
    refine g_aload_n (j := 0) dX12_placed_60 rfl rfl ?_
    obtain ⟨v2, ev2, hf⟩ := ob hf
    refine g_getI dX12_placed_61 ev2 t_2008 hin16 hc16 (by decide) rfl ?_
    refine g_iadd dX12_placed_64 ?_
    obtain ⟨v3, ev3, hf⟩ := nm_el hf
    refine g_topI ev3 ?_
    refine g_istore_n (i := 2) (L' := [(2, .int v3), (0, rv x0), (1, .int x1)]) dX12_placed_65 rfl (Nat.le_of_ble_eq_true rfl) rfl ?_
    refine g_aload_n (j := 1) dX12_placed_66 rfl rfl ?_
    refine g_dup dX12_placed_67 (rv_cat _) ?_
    obtain ⟨v4, ev4, hf⟩ := ob hf
    refine g_getI dX12_placed_68 ev4 t_2008 hin16 hc16 (by decide) rfl ?_
    refine g_iconst (v := 1) dX12_placed_71 (by decide) ?_
    refine g_iadd dX12_placed_72 ?_
    obtain ⟨σ5, eσ5, hf⟩ := ob hf
    refine g_putI dX12_placed_73 eσ5 (Or.inl t_2008) hin16 hc16 (by decide) hty16 hnm16 (Or.inl rfl) rfl rfl rfl ?_
    refine g_sub (L' := [(0, rv x0), (1, .int x1), (2, .int v3)]) [1, 2, 0] rfl ?_
    exact bX12_placed_76 hX1 hX2 hf

set_option maxRecDepth 100000 in
set_option maxHeartbeats 4000000 in
theorem bX12_placed_18 {X : Xt} {σf : St} {r : Int32} (hX1 : X.2.2.1 = σf) (hX2 : X.2.2.2 = .inl (some (.int r))) {σ : St} {x0 : Nat} {x1 : Int32} {y0 : Nat} {y1 : Int32} {y2 : Int32} (hf : fX12_placed_18 σ x0 x1 y0 y1 y2 = some (σf, r)) : G MtX12_placed X σ 18 [(0, rv x0), (1, .int x1)] [.int y2, .int y1, rv y0] := by
  unfold fX12_placed_18 at hf
  obtain ⟨_, h3, hf⟩ := ob hf
  obtain ⟨σ1, v2, eσ1, hf⟩ := cb_el hf
  refine g_callV_i dX12_placed_18 (wX12_thing _ eσ1) (okX12_thing _ (by decide) (by decide)) (ckK_el h3) hc16 t_2357 t_2359 s_X12_thing rfl (Nat.le_trans (cat_le _) (Nat.le_of_ble_eq_true rfl)) rfl ?_
  refine g_istore_n (i := 2) (L' := [(2, .int v2), (0, rv x0), (1, .int x1)]) dX12_placed_21 rfl (Nat.le_of_ble_eq_true rfl) rfl ?_
  refine g_iload_n (j := 0) dX12_placed_22 rfl rfl ?_
  refine g_iconst (v := (-1)) dX12_placed_23 (by decide) ?_
  refine g_icmp_ne (tgt := 53) dX12_placed_24 (by decide) (fun c4 => ?_) (fun c4 => ?_)
  · rw [if_neg c4] at hf
    refine g_sub (L' := [(0, rv x0), (1, .int x1), (2, .int v2)]) [1, 2, 0] rfl ?_
    exact bX12_placed_53 hX1 hX2 hf
  · rw [if_pos c4] at hf
    refine g_aload_n (j := 1) dX12_placed_27 rfl rfl ?_
    obtain ⟨v5, ev5, hf⟩ := ob hf
    refine g_getI dX12_placed_28 ev5 t_1999 hin16 hc16 (by decide) rfl ?_
    refine g_iconst (v := 1) dX12_placed_31 (by decide) ?_
    refine g_icmp_ne (tgt := 53) dX12_placed_32 (by decide) (fun c6 => ?_) (fun c6 => ?_)
    · rw [if_neg c6] at hf
      refine g_sub (L' := [(0, rv x0), (1, .int x1), (2, .int v2)]) [1, 2, 0] rfl ?_
      exact bX12_placed_53 hX1 hX2 hf
    · rw [if_pos c6] at hf
      refine g_aload_n (j := 1) dX12_placed_35 rfl rfl ?_
      obtain ⟨v7, ev7, hf⟩ := ob hf
      refine g_getI dX12_placed_36 ev7 t_2007 hin16 hc16 (by decide) rfl ?_
      refine g_istore_n (i := 2) (L' := [(2, .int v7), (0, rv x0), (1, .int x1)]) dX12_placed_39 rfl (Nat.le_of_ble_eq_true rfl) rfl ?_
      refine g_aload_n (j := 1) dX12_placed_40 rfl rfl ?_
      refine g_dup dX12_placed_41 (rv_cat _) ?_
      obtain ⟨v8, ev8, hf⟩ := ob hf
      refine g_getI dX12_placed_42 ev8 t_2007 hin16 hc16 (by decide) rfl ?_
      refine g_iconst (v := 1) dX12_placed_45 (by decide) ?_
      refine g_iadd dX12_placed_46 ?_
      obtain ⟨σ9, eσ9, hf⟩ := ob hf
      refine g_putI dX12_placed_47 eσ9 (Or.inl t_2007) hin16 hc16 (by decide) hty16 hnm16 (Or.inl rfl) rfl rfl rfl ?_
      refine g_goto (tgt := 76) dX12_placed_50 (by decide) ?_
      refine g_sub (L' := [(0, rv x0), (1, .int x1), (2, .int v7)]) [1, 2, 0] rfl ?_
      exact bX12_placed_76 hX1 hX2 hf

set_option maxRecDepth 100000 in
set_option maxHeartbeats 4000000 in
theorem wX12_placed (l : Launch) {σ σf : St} {x0 : Nat} {x1 : Int32} {r : Int32} (hf : fX12_placed σ x0 x1 = some (σf, r)) : Con MtX12_placed yX12_placed l σ [rv x0, .int x1] σf (some (.int r)) := by
  refine Con.of (by decide +kernel) rfl (fun h => absurd (show false = true from h) (by decide)) (by simp only [sl_n, sl_r, sl_i, sl_l]; exact Nat.le_of_ble_eq_true rfl) ?_
  rw [show lv_args 0 [rv x0, .int x1] = [(0, rv x0), (1, .int x1)] by simp only [la_n, la_r, la_i, la_l] <;> rfl]
  have hX1 : ((l, σ, σf, .inl (some (.int r))) : Xt).2.2.1 = σf := rfl
  have hX2 : ((l, σ, σf, .inl (some (.int r))) : Xt).2.2.2 = .inl (some (.int r)) := rfl
  unfold fX12_placed at hf
  refine g_aload_n (j := 0) dX12_placed_0 rfl rfl ?_
  refine g_aload_n (j := 0) dX12_placed_1 rfl rfl ?_
  obtain ⟨v1, ev1, hf⟩ := ob hf
  refine g_getI dX12_placed_2 ev1 t_2000 hin16 hc16 (by decide) rfl ?_
  refine g_aload_n (j := 0) dX12_placed_5 rfl rfl ?_
  obtain ⟨v2, ev2, hf⟩ := ob hf
  refine g_getI dX12_placed_6 ev2 t_1999 hin16 hc16 (by decide) rfl ?_
  refine g_iconst (v := 2) dX12_placed_9 (by decide) ?_
  refine g_icmp_ne (tgt := 17) dX12_placed_10 (by decide) (fun c3 => ?_) (fun c3 => ?_)
  · rw [if_neg c3] at hf
    refine g_iconst (v := 0) dX12_placed_17 (by decide) ?_
    exact bX12_placed_18 hX1 hX2 hf
  · rw [if_pos c3] at hf
    refine g_iconst (v := 1) dX12_placed_13 (by decide) ?_
    refine g_goto (tgt := 18) dX12_placed_14 (by decide) ?_
    exact bX12_placed_18 hX1 hX2 hf

theorem okX12_placed (M : Mt) (h1 : 2 + 1 ≤ M.2.2.2.2.1) (h2 : 8 + (3 + 11) + 108 ≤ M.2.2.2.2.2.1) : CallOk M MtX12_placed yX12_placed 1 := ⟨t_2502, h1, h2, ⟨by decide, by decide⟩, by decide +kernel, t_16⟩
abbrev MtX12_renews : Mt := (cX12_renews, 6, "ExactlySaidModel", (Option.some Jvm.ClassFile.FieldType.boolean), 9, 292, false)
set_option maxRecDepth 100000 in
set_option maxHeartbeats 4000000 in
theorem bX12_renews_40 {X : Xt} {σf : St} {r : Int32} (hX1 : X.2.2.1 = σf) (hX2 : X.2.2.2 = .inl (some (.int r))) {k2 : St → Nat → Int32 → Int32 → Option (St × Int32)} (hk2 : ∀ (σ : St) (x0 : Nat) (x1 : Int32) (x2 : Int32), k2 σ x0 x1 x2 = some (σf, r) → G MtX12_renews X σ 2 [(0, rv x0), (1, .int x1), (2, .int x2)] []) {σ : St} {x0 : Nat} {x1 : Int32} {x2 : Int32} {y0 : Nat} {y1 : Int32} {y2 : Int32} (hf : fX12_renews_40 k2 σ x0 x1 x2 y0 y1 y2 = some (σf, r)) : G MtX12_renews X σ 40 [(0, rv x0), (1, .int x1), (2, .int x2)] [.int y2, .int y1, rv y0] := by
  unfold fX12_renews_40 at hf
  obtain ⟨σ1, eσ1, hf⟩ := ob hf
  refine g_zast dX12_renews_40 eσ1 ?_
  obtain ⟨v2, ev2, hf⟩ := nm_el hf
  refine g_iinc (L' := [(2, .int v2), (0, rv x0), (1, .int x1)]) (j := 2) (v := v2) dX12_renews_41 rfl (by rw [ev2]; rfl) (Nat.le_of_ble_eq_true rfl) rfl ?_
  refine g_goto (tgt := 2) dX12_renews_44 (by decide) ?_
  refine g_sub (L' := [(0, rv x0), (1, .int x1), (2, .int v2)]) [1, 2, 0] rfl ?_
  exact hk2 _ _ _ _ hf

set_option maxRecDepth 100000 in
set_option maxHeartbeats 4000000 in
theorem bX12_renews_39 {X : Xt} {σf : St} {r : Int32} (hX1 : X.2.2.1 = σf) (hX2 : X.2.2.2 = .inl (some (.int r))) {k2 : St → Nat → Int32 → Int32 → Option (St × Int32)} (hk2 : ∀ (σ : St) (x0 : Nat) (x1 : Int32) (x2 : Int32), k2 σ x0 x1 x2 = some (σf, r) → G MtX12_renews X σ 2 [(0, rv x0), (1, .int x1), (2, .int x2)] []) {σ : St} {x0 : Nat} {x1 : Int32} {x2 : Int32} {y0 : Nat} {y1 : Int32} (hf : fX12_renews_39 k2 σ x0 x1 x2 y0 y1 = some (σf, r)) : G MtX12_renews X σ 39 [(0, rv x0), (1, .int x1), (2, .int x2)] [.int y1, rv y0] := by
  unfold fX12_renews_39 at hf
  refine g_iconst (v := 0) dX12_renews_39 (by decide) ?_
  exact bX12_renews_40 hX1 hX2 hk2 hf

set_option maxRecDepth 100000 in
set_option maxHeartbeats 4000000 in
theorem bX12_renews_171 {X : Xt} {σf : St} {r : Int32} (hX1 : X.2.2.1 = σf) (hX2 : X.2.2.2 = .inl (some (.int r))) {k47 : St → Nat → Option (St × Int32)} {k51 : St → Nat → Int32 → Int32 → Option (St × Int32)} (hk47 : ∀ (σ : St) (x0 : Nat), k47 σ x0 = some (σf, r) → G MtX12_renews X σ 47 [(0, rv x0)] []) (hk51 : ∀ (σ : St) (x0 : Nat) (x2 : Int32) (x3 : Int32), k51 σ x0 x2 x3 = some (σf, r) → G MtX12_renews X σ 51 [(0, rv x0), (2, .int x2), (3, .int x3)] []) {σ : St} {x0 : Nat} {x2 : Int32} {x3 : Int32} (hf : fX12_renews_171 k47 k51 σ x0 x2 x3 = some (σf, r)) : G MtX12_renews X σ 171 [(0, rv x0), (2, .int x2), (3, .int x3)] [] := by
  unfold fX12_renews_171 at hf
  obtain ⟨v1, ev1, hf⟩ := nm_el hf
  refine g_iinc (L' := [(3, .int v1), (0, rv x0), (2, .int x2)]) (j := 2) (v := v1) dX12_renews_171 rfl (by rw [ev1]; rfl) (Nat.le_of_ble_eq_true rfl) rfl ?_
  refine g_goto (tgt := 51) dX12_renews_174 (by decide) ?_
  refine g_sub (L' := [(0, rv x0), (2, .int x2), (3, .int v1)]) [1, 2, 0] rfl ?_
  exact hk51 _ _ _ _ hf

set_option maxRecDepth 100000 in
set_option maxHeartbeats 4000000 in
theorem bX12_renews_155 {X : Xt} {σf : St} {r : Int32} (hX1 : X.2.2.1 = σf) (hX2 : X.2.2.2 = .inl (some (.int r))) {k47 : St → Nat → Option (St × Int32)} {k51 : St → Nat → Int32 → Int32 → Option (St × Int32)} {k113 : St → Nat → Int32 → Int32 → Int32 → Int32 → Option (St × Int32)} (hk47 : ∀ (σ : St) (x0 : Nat), k47 σ x0 = some (σf, r) → G MtX12_renews X σ 47 [(0, rv x0)] []) (hk51 : ∀ (σ : St) (x0 : Nat) (x2 : Int32) (x3 : Int32), k51 σ x0 x2 x3 = some (σf, r) → G MtX12_renews X σ 51 [(0, rv x0), (2, .int x2), (3, .int x3)] []) (hk113 : ∀ (σ : St) (x0 : Nat) (x2 : Int32) (x3 : Int32) (x4 : Int32) (x5 : Int32), k113 σ x0 x2 x3 x4 x5 = some (σf, r) → G MtX12_renews X σ 113 [(0, rv x0), (2, .int x2), (3, .int x3), (4, .int x4), (5, .int x5)] []) {σ : St} {x0 : Nat} {x2 : Int32} {x3 : Int32} {x5 : Int32} {y0 : Int32} {y1 : Int32} (hf : fX12_renews_155 k47 k51 k113 σ x0 x2 x3 x5 y0 y1 = some (σf, r)) : G MtX12_renews X σ 155 [(0, rv x0), (2, .int x2), (3, .int x3), (5, .int x5)] [.int y1, .int y0] := by
  unfold fX12_renews_155 at hf
  refine g_iand dX12_renews_155 ?_
  obtain ⟨v1, ev1, hf⟩ := nm_el hf
  refine g_topI ev1 ?_
  refine g_istore (i := 4) (L' := [(4, .int v1), (0, rv x0), (2, .int x2), (3, .int x3), (5, .int x5)]) dX12_renews_156 (Nat.le_of_ble_eq_true rfl) rfl ?_
  obtain ⟨v2, ev2, hf⟩ := nm_el hf
  refine g_iinc (L' := [(5, .int v2), (4, .int v1), (0, rv x0), (2, .int x2), (3, .int x3)]) (j := 4) (v := v2) dX12_renews_158 rfl (by rw [ev2]; rfl) (Nat.le_of_ble_eq_true rfl) rfl ?_
  refine g_goto (tgt := 113) dX12_renews_161 (by decide) ?_
  refine g_sub (L' := [(0, rv x0), (2, .int x2), (3, .int x3), (4, .int v1), (5, .int v2)]) [2, 3, 4, 1, 0] rfl ?_
  exact hk113 _ _ _ _ _ _ hf

set_option maxRecDepth 100000 in
set_option maxHeartbeats 4000000 in
theorem bX12_renews_150 {X : Xt} {σf : St} {r : Int32} (hX1 : X.2.2.1 = σf) (hX2 : X.2.2.2 = .inl (some (.int r))) {k47 : St → Nat → Option (St × Int32)} {k51 : St → Nat → Int32 → Int32 → Option (St × Int32)} {k113 : St → Nat → Int32 → Int32 → Int32 → Int32 → Option (St × Int32)} (hk47 : ∀ (σ : St) (x0 : Nat), k47 σ x0 = some (σf, r) → G MtX12_renews X σ 47 [(0, rv x0)] []) (hk51 : ∀ (σ : St) (x0 : Nat) (x2 : Int32) (x3 : Int32), k51 σ x0 x2 x3 = some (σf, r) → G MtX12_renews X σ 51 [(0, rv x0), (2, .int x2), (3, .int x3)] []) (hk113 : ∀ (σ : St) (x0 : Nat) (x2 : Int32) (x3 : Int32) (x4 : Int32) (x5 : Int32), k113 σ x0 x2 x3 x4 x5 = some (σf, r) → G MtX12_renews X σ 113 [(0, rv x0), (2, .int x2), (3, .int x3), (4, .int x4), (5, .int x5)] []) {σ : St} {x0 : Nat} {x2 : Int32} {x3 : Int32} {x5 : Int32} {y0 : Int32} (hf : fX12_renews_150 k47 k51 k113 σ x0 x2 x3 x5 y0 = some (σf, r)) : G MtX12_renews X σ 150 [(0, rv x0), (2, .int x2), (3, .int x3), (5, .int x5)] [.int y0] := by
  unfold fX12_renews_150 at hf
  refine g_iconst (v := 1) dX12_renews_150 (by decide) ?_
  refine g_goto (tgt := 155) dX12_renews_151 (by decide) ?_
  exact bX12_renews_155 hX1 hX2 hk47 hk51 hk113 hf

set_option maxRecDepth 100000 in
set_option maxHeartbeats 4000000 in
theorem bX12_renews_113 {X : Xt} {σf : St} {r : Int32} (hX1 : X.2.2.1 = σf) (hX2 : X.2.2.2 = .inl (some (.int r))) {k47 : St → Nat → Option (St × Int32)} {k51 : St → Nat → Int32 → Int32 → Option (St × Int32)} (hk47 : ∀ (σ : St) (x0 : Nat), k47 σ x0 = some (σf, r) → G MtX12_renews X σ 47 [(0, rv x0)] []) (hk51 : ∀ (σ : St) (x0 : Nat) (x2 : Int32) (x3 : Int32), k51 σ x0 x2 x3 = some (σf, r) → G MtX12_renews X σ 51 [(0, rv x0), (2, .int x2), (3, .int x3)] []) : ∀ (n : Nat) (σ : St) (x0 : Nat) (x2 : Int32) (x3 : Int32) (x4 : Int32) (x5 : Int32), fX12_renews_113 k47 k51 n σ x0 x2 x3 x4 x5 = some (σf, r) → G MtX12_renews X σ 113 [(0, rv x0), (2, .int x2), (3, .int x3), (4, .int x4), (5, .int x5)] [] := by
  intro n
  induction n with
  | zero => intro σ x0 x2 x3 x4 x5 hf; cases hf
  | succ n ih =>
    intro σ x0 x2 x3 x4 x5 hf
    rw [fX12_renews_113] at hf
    refine g_iload (j := 4) dX12_renews_113 rfl ?_
    refine g_aload_n (j := 0) dX12_renews_115 rfl rfl ?_
    obtain ⟨v1, ev1, hf⟩ := ob hf
    refine g_getI dX12_renews_116 ev1 t_2007 hin16 hc16 (by decide) rfl ?_
    refine g_icmp_ge (tgt := 164) dX12_renews_119 (by decide) (fun c2 => ?_) (fun c2 => ?_)
    · rw [if_pos c2] at hf
      refine g_iload (j := 3) dX12_renews_164 rfl ?_
      refine g_if_eq (tgt := 171) dX12_renews_166 (by decide) (fun c3 => ?_) (fun c3 => ?_)
      · rw [if_pos c3] at hf
        refine g_sub (L' := [(0, rv x0), (2, .int x2), (3, .int x3)]) [0, 1, 2] rfl ?_
        exact bX12_renews_171 hX1 hX2 hk47 hk51 hf
      · rw [if_neg c3] at hf
        refine g_iload_n (j := 2) dX12_renews_169 rfl rfl ?_
        refine g_istore_n (i := 2) (L' := [(2, .int x3), (0, rv x0), (3, .int x3), (4, .int x4), (5, .int x5)]) dX12_renews_170 rfl (Nat.le_of_ble_eq_true rfl) rfl ?_
        refine g_sub (L' := [(0, rv x0), (2, .int x3), (3, .int x3)]) [1, 0, 2] rfl ?_
        exact bX12_renews_171 hX1 hX2 hk47 hk51 hf
    · rw [if_neg c2] at hf
      refine g_iload (j := 3) dX12_renews_122 rfl ?_
      refine g_iload (j := 4) dX12_renews_124 rfl ?_
      refine g_iload_n (j := 2) dX12_renews_126 rfl rfl ?_
      refine g_icmp_eq (tgt := 150) dX12_renews_127 (by decide) (fun c4 => ?_) (fun c4 => ?_)
      · rw [if_pos c4] at hf
        refine g_sub (L' := [(0, rv x0), (2, .int x2), (3, .int x3), (5, .int x5)]) [0, 1, 2, 4] rfl ?_
        exact bX12_renews_150 hX1 hX2 hk47 hk51 (fun σ x0 x2 x3 x4 x5 hf => ih σ x0 x2 x3 x4 x5 hf) hf
      · rw [if_neg c4] at hf
        refine g_aload_n (j := 0) dX12_renews_130 rfl rfl ?_
        obtain ⟨v5, ev5, hf⟩ := ob hf
        refine g_getF dX12_renews_131 ev5 t_2030 hin16 hc16 (by decide) rfl ?_
        refine g_iload (j := 4) dX12_renews_134 rfl ?_
        obtain ⟨v6, ev6, hf⟩ := ob hf
        refine g_zald dX12_renews_136 ev6 ?_
        refine g_if_eq (tgt := 150) dX12_renews_137 (by decide) (fun c7 => ?_) (fun c7 => ?_)
        · rw [if_pos c7] at hf
          refine g_sub (L' := [(0, rv x0), (2, .int x2), (3, .int x3), (5, .int x5)]) [0, 1, 2, 4] rfl ?_
          exact bX12_renews_150 hX1 hX2 hk47 hk51 (fun σ x0 x2 x3 x4 x5 hf => ih σ x0 x2 x3 x4 x5 hf) hf
        · rw [if_neg c7] at hf
          refine g_aload_n (j := 0) dX12_renews_140 rfl rfl ?_
          obtain ⟨v8, ev8, hf⟩ := ob hf
          refine g_getF dX12_renews_141 ev8 t_2009 hin16 hc16 (by decide) rfl ?_
          refine g_iload (j := 4) dX12_renews_144 rfl ?_
          obtain ⟨v9, ev9, hf⟩ := ob hf
          refine g_zald dX12_renews_146 ev9 ?_
          refine g_if_ne (tgt := 154) dX12_renews_147 (by decide) (fun c10 => ?_) (fun c10 => ?_)
          · rw [if_neg c10] at hf
            refine g_iconst (v := 0) dX12_renews_154 (by decide) ?_
            refine g_sub (L' := [(0, rv x0), (2, .int x2), (3, .int x3), (5, .int x5)]) [0, 1, 2, 4] rfl ?_
            exact bX12_renews_155 hX1 hX2 hk47 hk51 (fun σ x0 x2 x3 x4 x5 hf => ih σ x0 x2 x3 x4 x5 hf) hf
          · rw [if_pos c10] at hf
            refine g_sub (L' := [(0, rv x0), (2, .int x2), (3, .int x3), (5, .int x5)]) [0, 1, 2, 4] rfl ?_
            exact bX12_renews_150 hX1 hX2 hk47 hk51 (fun σ x0 x2 x3 x4 x5 hf => ih σ x0 x2 x3 x4 x5 hf) hf

set_option maxRecDepth 100000 in
set_option maxHeartbeats 4000000 in
theorem bX12_renews_97 {X : Xt} {σf : St} {r : Int32} (hX1 : X.2.2.1 = σf) (hX2 : X.2.2.2 = .inl (some (.int r))) {k47 : St → Nat → Option (St × Int32)} {k51 : St → Nat → Int32 → Int32 → Option (St × Int32)} (hk47 : ∀ (σ : St) (x0 : Nat), k47 σ x0 = some (σf, r) → G MtX12_renews X σ 47 [(0, rv x0)] []) (hk51 : ∀ (σ : St) (x0 : Nat) (x2 : Int32) (x3 : Int32), k51 σ x0 x2 x3 = some (σf, r) → G MtX12_renews X σ 51 [(0, rv x0), (2, .int x2), (3, .int x3)] []) {σ : St} {x0 : Nat} {x2 : Int32} {x3 : Int32} (hf : fX12_renews_97 k47 k51 σ x0 x2 x3 = some (σf, r)) : G MtX12_renews X σ 97 [(0, rv x0), (2, .int x2), (3, .int x3)] [] := by
  unfold fX12_renews_97 at hf
  refine g_aload_n (j := 0) dX12_renews_97 rfl rfl ?_
  refine g_aload_n (j := 0) dX12_renews_98 rfl rfl ?_
  obtain ⟨v1, ev1, hf⟩ := ob hf
  refine g_getF dX12_renews_99 ev1 t_2005 hin16 hc16 (by decide) rfl ?_
  refine g_iload_n (j := 2) dX12_renews_102 rfl rfl ?_
  obtain ⟨v2, ev2, hf⟩ := ob hf
  refine g_iald dX12_renews_103 ev2 ?_
  obtain ⟨_, h5, hf⟩ := ob hf
  obtain ⟨σ3, v4, eσ3, hf⟩ := cb_el hf
  refine g_callV_v dX12_renews_104 (wX12_findsUsed _ eσ3) (okX12_findsUsed _ (by decide) (by decide)) (ckK_el h5) hc16 t_2387 t_2389 s_X12_findsUsed rfl (Nat.le_trans (cat_le _) (Nat.le_of_ble_eq_true rfl)) rfl ?_
  refine g_iconst (v := 1) dX12_renews_107 (by decide) ?_
  refine g_istore (i := 4) (L' := [(4, .int 1), (0, rv x0), (2, .int x2), (3, .int x3)]) dX12_renews_108 (Nat.le_of_ble_eq_true rfl) rfl ?_
  refine g_iconst (v := 0) dX12_renews_110 (by decide) ?_
  refine g_istore (i := 5) (L' := [(5, .int 0), (4, .int 1), (0, rv x0), (2, .int x2), (3, .int x3)]) dX12_renews_111 (Nat.le_of_ble_eq_true rfl) rfl ?_
  refine g_sub (L' := [(0, rv x0), (2, .int x2), (3, .int x3), (4, .int 1), (5, .int 0)]) [2, 3, 4, 1, 0] rfl ?_
  exact bX12_renews_113 hX1 hX2 hk47 hk51 FU _ _ _ _ _ _ hf

set_option maxRecDepth 100000 in
set_option maxHeartbeats 4000000 in
theorem bX12_renews_51 {X : Xt} {σf : St} {r : Int32} (hX1 : X.2.2.1 = σf) (hX2 : X.2.2.2 = .inl (some (.int r))) {k47 : St → Nat → Option (St × Int32)} (hk47 : ∀ (σ : St) (x0 : Nat), k47 σ x0 = some (σf, r) → G MtX12_renews X σ 47 [(0, rv x0)] []) : ∀ (n : Nat) (σ : St) (x0 : Nat) (x2 : Int32) (x3 : Int32), fX12_renews_51 k47 n σ x0 x2 x3 = some (σf, r) → G MtX12_renews X σ 51 [(0, rv x0), (2, .int x2), (3, .int x3)] [] := by
  intro n
  induction n with
  | zero => intro σ x0 x2 x3 hf; cases hf
  | succ n ih =>
    intro σ x0 x2 x3 hf
    rw [fX12_renews_51] at hf
    refine g_iload_n (j := 2) dX12_renews_51 rfl rfl ?_
    refine g_aload_n (j := 0) dX12_renews_52 rfl rfl ?_
    obtain ⟨v1, ev1, hf⟩ := ob hf
    refine g_getI dX12_renews_53 ev1 t_2007 hin16 hc16 (by decide) rfl ?_
    refine g_icmp_ge (tgt := 177) dX12_renews_56 (by decide) (fun c2 => ?_) (fun c2 => ?_)
    · rw [if_pos c2] at hf
      refine g_iload_n (j := 1) dX12_renews_177 rfl rfl ?_
      refine g_iconst (v := (-1)) dX12_renews_178 (by decide) ?_
      refine g_icmp_ne (tgt := 184) dX12_renews_179 (by decide) (fun c3 => ?_) (fun c3 => ?_)
      · rw [if_neg c3] at hf
        refine g_aload_n (j := 0) dX12_renews_184 rfl rfl ?_
        refine g_aload_n (j := 0) dX12_renews_185 rfl rfl ?_
        obtain ⟨v4, ev4, hf⟩ := ob hf
        refine g_getF dX12_renews_186 ev4 t_2005 hin16 hc16 (by decide) rfl ?_
        refine g_iload_n (j := 1) dX12_renews_189 rfl rfl ?_
        obtain ⟨v5, ev5, hf⟩ := ob hf
        refine g_iald dX12_renews_190 ev5 ?_
        obtain ⟨_, h8, hf⟩ := ob hf
        obtain ⟨σ6, v7, eσ6, hf⟩ := cb_el hf
        refine g_callV_i dX12_renews_191 (wX12_worked _ eσ6) (okX12_worked _ (by decide) (by decide)) (ckK_el h8) hc16 t_2403 t_2405 s_X12_worked rfl (Nat.le_trans (cat_le _) (Nat.le_of_ble_eq_true rfl)) rfl ?_
        refine g_istore_n (i := 3) (L' := [(3, .int v7), (0, rv x0), (2, .int x2)]) dX12_renews_194 rfl (Nat.le_of_ble_eq_true rfl) rfl ?_
        refine g_iload_n (j := 0) dX12_renews_195 rfl rfl ?_
        refine g_iconst (v := (-1)) dX12_renews_196 (by decide) ?_
        refine g_icmp_ne (tgt := 221) dX12_renews_197 (by decide) (fun c9 => ?_) (fun c9 => ?_)
        · rw [if_neg c9] at hf
          refine g_aload_n (j := 1) dX12_renews_221 rfl rfl ?_
          obtain ⟨v10, ev10, hf⟩ := ob hf
          refine g_getF dX12_renews_222 ev10 t_2006 hin16 hc16 (by decide) rfl ?_
          refine g_iload_n (j := 2) dX12_renews_225 rfl rfl ?_
          refine g_aload_n (j := 1) dX12_renews_226 rfl rfl ?_
          refine g_iload_n (j := 0) dX12_renews_227 rfl rfl ?_
          obtain ⟨_, h13, hf⟩ := ob hf
          obtain ⟨σ11, v12, eσ11, hf⟩ := cb_el hf
          refine g_callV_i dX12_renews_228 (wX12_keeps _ eσ11) (okX12_keeps _ (by decide) (by decide)) (ckK_el h13) hc16 t_2479 t_2481 s_X12_keeps rfl (Nat.le_trans (cat_le _) (Nat.le_of_ble_eq_true rfl)) rfl ?_
          obtain ⟨σ14, eσ14, hf⟩ := ob hf
          refine g_iast dX12_renews_231 eσ14 ?_
          refine g_aload_n (j := 1) dX12_renews_232 rfl rfl ?_
          obtain ⟨v15, ev15, hf⟩ := ob hf
          refine g_getF dX12_renews_233 ev15 t_2030 hin16 hc16 (by decide) rfl ?_
          refine g_iload_n (j := 2) dX12_renews_236 rfl rfl ?_
          refine g_iconst (v := 0) dX12_renews_237 (by decide) ?_
          obtain ⟨σ16, eσ16, hf⟩ := ob hf
          refine g_zast dX12_renews_238 eσ16 ?_
          refine g_goto (tgt := 47) dX12_renews_239 (by decide) ?_
          refine g_sub (L' := [(0, rv x0)]) [1] rfl ?_
          exact hk47 _ _ hf
        · rw [if_pos c9] at hf
          refine g_aload_n (j := 1) dX12_renews_200 rfl rfl ?_
          refine g_bipush (v := 9) dX12_renews_201 (by decide) ?_
          refine g_iconst (v := 0) dX12_renews_203 (by decide) ?_
          obtain ⟨_, h19, hf⟩ := ob hf
          obtain ⟨σ17, v18, eσ17, hf⟩ := cb_el hf
          refine g_callV_i dX12_renews_204 (wX12_refuses _ eσ17) (okX12_refuses _ (by decide) (by decide)) (ckK_el h19) hc16 t_2371 t_2373 s_X12_refuses rfl (Nat.le_trans (cat_le _) (Nat.le_of_ble_eq_true rfl)) rfl ?_
          refine g_istore (i := 4) (L' := [(4, .int v18), (3, .int v7), (0, rv x0), (2, .int x2)]) dX12_renews_207 (Nat.le_of_ble_eq_true rfl) rfl ?_
          refine g_aload_n (j := 2) dX12_renews_209 rfl rfl ?_
          refine g_aload_n (j := 2) dX12_renews_210 rfl rfl ?_
          obtain ⟨v20, ev20, hf⟩ := ob hf
          refine g_getF dX12_renews_211 ev20 t_2004 hin16 hc16 (by decide) rfl ?_
          refine g_iload_n (j := 3) dX12_renews_214 rfl rfl ?_
          obtain ⟨v21, ev21, hf⟩ := ob hf
          refine g_iald dX12_renews_215 ev21 ?_
          obtain ⟨σ22, eσ22, hf⟩ := ob hf
          refine g_putI dX12_renews_216 eσ22 (Or.inl t_2012) hin16 hc16 (by decide) hty16 hnm16 (Or.inl rfl) rfl rfl rfl ?_
          refine g_iconst (v := 0) dX12_renews_219 (by decide) ?_
          exact g_iret dX12_renews_220 rfl (by decide) hX2 hX1 hf
      · rw [if_pos c3] at hf
        refine g_iconst (v := 1) dX12_renews_182 (by decide) ?_
        exact g_iret dX12_renews_183 rfl (by decide) hX2 hX1 hf
    · rw [if_neg c2] at hf
      refine g_aload_n (j := 0) dX12_renews_59 rfl rfl ?_
      obtain ⟨v23, ev23, hf⟩ := ob hf
      refine g_getF dX12_renews_60 ev23 t_2030 hin16 hc16 (by decide) rfl ?_
      refine g_iload_n (j := 2) dX12_renews_63 rfl rfl ?_
      obtain ⟨v24, ev24, hf⟩ := ob hf
      refine g_zald dX12_renews_64 ev24 ?_
      refine g_if_eq (tgt := 171) dX12_renews_65 (by decide) (fun c25 => ?_) (fun c25 => ?_)
      · rw [if_pos c25] at hf
        exact bX12_renews_171 hX1 hX2 hk47 (fun σ x0 x2 x3 hf => ih σ x0 x2 x3 hf) hf
      · rw [if_neg c25] at hf
        refine g_iload_n (j := 1) dX12_renews_68 rfl rfl ?_
        refine g_iconst (v := (-1)) dX12_renews_69 (by decide) ?_
        refine g_icmp_eq (tgt := 97) dX12_renews_70 (by decide) (fun c26 => ?_) (fun c26 => ?_)
        · rw [if_pos c26] at hf
          exact bX12_renews_97 hX1 hX2 hk47 (fun σ x0 x2 x3 hf => ih σ x0 x2 x3 hf) hf
        · rw [if_neg c26] at hf
          refine g_aload_n (j := 0) dX12_renews_73 rfl rfl ?_
          obtain ⟨v27, ev27, hf⟩ := ob hf
          refine g_getF dX12_renews_74 ev27 t_2004 hin16 hc16 (by decide) rfl ?_
          refine g_iload_n (j := 1) dX12_renews_77 rfl rfl ?_
          obtain ⟨v28, ev28, hf⟩ := ob hf
          refine g_iald dX12_renews_78 ev28 ?_
          obtain ⟨σ29, v30, eσ29, hf⟩ := cb_el hf
          refine g_callS_i dX12_renews_79 (wX12_orderOf _ eσ29) (okX12_orderOf _ (by decide) (by decide)) t_2399 t_2400 rfl (Nat.le_trans (cat_le _) (Nat.le_of_ble_eq_true rfl)) rfl ?_
          refine g_aload_n (j := 0) dX12_renews_82 rfl rfl ?_
          obtain ⟨v31, ev31, hf⟩ := ob hf
          refine g_getF dX12_renews_83 ev31 t_2004 hin16 hc16 (by decide) rfl ?_
          refine g_iload_n (j := 2) dX12_renews_86 rfl rfl ?_
          obtain ⟨v32, ev32, hf⟩ := ob hf
          refine g_iald dX12_renews_87 ev32 ?_
          obtain ⟨σ33, v34, eσ33, hf⟩ := cb_el hf
          refine g_callS_i dX12_renews_88 (wX12_orderOf _ eσ33) (okX12_orderOf _ (by decide) (by decide)) t_2399 t_2400 rfl (Nat.le_trans (cat_le _) (Nat.le_of_ble_eq_true rfl)) rfl ?_
          refine g_icmp_ge (tgt := 97) dX12_renews_91 (by decide) (fun c35 => ?_) (fun c35 => ?_)
          · rw [if_pos c35] at hf
            exact bX12_renews_97 hX1 hX2 hk47 (fun σ x0 x2 x3 hf => ih σ x0 x2 x3 hf) hf
          · rw [if_neg c35] at hf
            refine g_goto (tgt := 171) dX12_renews_94 (by decide) ?_
            exact bX12_renews_171 hX1 hX2 hk47 (fun σ x0 x2 x3 hf => ih σ x0 x2 x3 hf) hf

set_option maxRecDepth 100000 in
set_option maxHeartbeats 4000000 in
theorem bX12_renews_47 {X : Xt} {σf : St} {r : Int32} (hX1 : X.2.2.1 = σf) (hX2 : X.2.2.2 = .inl (some (.int r))) : ∀ (n : Nat) (σ : St) (x0 : Nat), fX12_renews_47 n σ x0 = some (σf, r) → G MtX12_renews X σ 47 [(0, rv x0)] [] := by
  intro n
  induction n with
  | zero => intro σ x0 hf; cases hf
  | succ n ih =>
    intro σ x0 hf
    rw [fX12_renews_47] at hf
    refine g_iconst (v := (-1)) dX12_renews_47 (by decide) ?_
    refine g_istore_n (i := 2) (L' := [(2, .int ((-1))), (0, rv x0)]) dX12_renews_48 rfl (Nat.le_of_ble_eq_true rfl) rfl ?_
    refine g_iconst (v := 0) dX12_renews_49 (by decide) ?_
    refine g_istore_n (i := 3) (L' := [(3, .int 0), (2, .int ((-1))), (0, rv x0)]) dX12_renews_50 rfl (Nat.le_of_ble_eq_true rfl) rfl ?_
    refine g_sub (L' := [(0, rv x0), (2, .int ((-1))), (3, .int 0)]) [2, 1, 0] rfl ?_
    exact bX12_renews_51 hX1 hX2 (fun σ x0 hf => ih σ x0 hf) FU _ _ _ _ hf

set_option maxRecDepth 100000 in
set_option maxHeartbeats 4000000 in
theorem bX12_renews_2 {X : Xt} {σf : St} {r : Int32} (hX1 : X.2.2.1 = σf) (hX2 : X.2.2.2 = .inl (some (.int r))) : ∀ (n : Nat) (σ : St) (x0 : Nat) (x1 : Int32) (x2 : Int32), fX12_renews_2 n σ x0 x1 x2 = some (σf, r) → G MtX12_renews X σ 2 [(0, rv x0), (1, .int x1), (2, .int x2)] [] := by
  intro n
  induction n with
  | zero => intro σ x0 x1 x2 hf; cases hf
  | succ n ih =>
    intro σ x0 x1 x2 hf
    rw [fX12_renews_2] at hf
    refine g_iload_n (j := 2) dX12_renews_2 rfl rfl ?_
    refine g_bipush (v := 20) dX12_renews_3 (by decide) ?_
    refine g_icmp_ge (tgt := 47) dX12_renews_5 (by decide) (fun c1 => ?_) (fun c1 => ?_)
    · rw [if_pos c1] at hf
      refine g_sub (L' := [(0, rv x0)]) [0] rfl ?_
      exact bX12_renews_47 hX1 hX2 FU _ _ hf
    · rw [if_neg c1] at hf
      refine g_aload_n (j := 0) dX12_renews_8 rfl rfl ?_
      obtain ⟨v2, ev2, hf⟩ := ob hf
      refine g_getF dX12_renews_9 ev2 t_2030 hin16 hc16 (by decide) rfl ?_
      refine g_iload_n (j := 2) dX12_renews_12 rfl rfl ?_
      refine g_iload_n (j := 2) dX12_renews_13 rfl rfl ?_
      refine g_aload_n (j := 0) dX12_renews_14 rfl rfl ?_
      obtain ⟨v3, ev3, hf⟩ := ob hf
      refine g_getI dX12_renews_15 ev3 t_2007 hin16 hc16 (by decide) rfl ?_
      refine g_icmp_ge (tgt := 39) dX12_renews_18 (by decide) (fun c4 => ?_) (fun c4 => ?_)
      · rw [if_pos c4] at hf
        exact bX12_renews_39 hX1 hX2 (fun σ x0 x1 x2 hf => ih σ x0 x1 x2 hf) hf
      · rw [if_neg c4] at hf
        refine g_iload_n (j := 2) dX12_renews_21 rfl rfl ?_
        refine g_iload_n (j := 1) dX12_renews_22 rfl rfl ?_
        refine g_icmp_eq (tgt := 39) dX12_renews_23 (by decide) (fun c5 => ?_) (fun c5 => ?_)
        · rw [if_pos c5] at hf
          exact bX12_renews_39 hX1 hX2 (fun σ x0 x1 x2 hf => ih σ x0 x1 x2 hf) hf
        · rw [if_neg c5] at hf
          refine g_aload_n (j := 0) dX12_renews_26 rfl rfl ?_
          refine g_iload_n (j := 2) dX12_renews_27 rfl rfl ?_
          refine g_iload_n (j := 1) dX12_renews_28 rfl rfl ?_
          obtain ⟨_, h8, hf⟩ := ob hf
          obtain ⟨σ6, v7, eσ6, hf⟩ := cb_el hf
          refine g_callV_i dX12_renews_29 (wX12_doesUse _ eσ6) (okX12_doesUse _ (by decide) (by decide)) (ckK_el h8) hc16 t_2383 t_2385 s_X12_doesUse rfl (Nat.le_trans (cat_le _) (Nat.le_of_ble_eq_true rfl)) rfl ?_
          refine g_if_eq (tgt := 39) dX12_renews_32 (by decide) (fun c9 => ?_) (fun c9 => ?_)
          · rw [if_pos c9] at hf
            exact bX12_renews_39 hX1 hX2 (fun σ x0 x1 x2 hf => ih σ x0 x1 x2 hf) hf
          · rw [if_neg c9] at hf
            refine g_iconst (v := 1) dX12_renews_35 (by decide) ?_
            refine g_goto (tgt := 40) dX12_renews_36 (by decide) ?_
            exact bX12_renews_40 hX1 hX2 (fun σ x0 x1 x2 hf => ih σ x0 x1 x2 hf) hf

set_option maxRecDepth 100000 in
set_option maxHeartbeats 4000000 in
theorem wX12_renews (l : Launch) {σ σf : St} {x0 : Nat} {x1 : Int32} {r : Int32} (hf : fX12_renews σ x0 x1 = some (σf, r)) : Con MtX12_renews yX12_renews l σ [rv x0, .int x1] σf (some (.int r)) := by
  refine Con.of (by decide +kernel) rfl (fun h => absurd (show false = true from h) (by decide)) (by simp only [sl_n, sl_r, sl_i, sl_l]; exact Nat.le_of_ble_eq_true rfl) ?_
  rw [show lv_args 0 [rv x0, .int x1] = [(0, rv x0), (1, .int x1)] by simp only [la_n, la_r, la_i, la_l] <;> rfl]
  have hX1 : ((l, σ, σf, .inl (some (.int r))) : Xt).2.2.1 = σf := rfl
  have hX2 : ((l, σ, σf, .inl (some (.int r))) : Xt).2.2.2 = .inl (some (.int r)) := rfl
  unfold fX12_renews at hf
  refine g_iconst (v := 0) dX12_renews_0 (by decide) ?_
  refine g_istore_n (i := 2) (L' := [(2, .int 0), (0, rv x0), (1, .int x1)]) dX12_renews_1 rfl (Nat.le_of_ble_eq_true rfl) rfl ?_
  refine g_sub (L' := [(0, rv x0), (1, .int x1), (2, .int 0)]) [1, 2, 0] rfl ?_
  exact bX12_renews_2 hX1 hX2 FU _ _ _ _ hf

theorem okX12_renews (M : Mt) (h1 : 9 + 1 ≤ M.2.2.2.2.1) (h2 : 8 + (6 + 11) + 292 ≤ M.2.2.2.2.2.1) : CallOk M MtX12_renews yX12_renews 1 := ⟨t_2506, h1, h2, ⟨by decide, by decide⟩, by decide +kernel, t_16⟩
abbrev MtX12_recalls : Mt := (cX12_recalls, 2, "ExactlySaidModel", none, 1, 84, false)
set_option maxRecDepth 100000 in
set_option maxHeartbeats 4000000 in
theorem bX12_recalls_2 {X : Xt} {σf : St} {r : Unit} (hX1 : X.2.2.1 = σf) (hX2 : X.2.2.2 = .inl (none)) : ∀ (n : Nat) (σ : St) (x0 : Nat) (x1 : Int32), fX12_recalls_2 n σ x0 x1 = some (σf, r) → G MtX12_recalls X σ 2 [(0, rv x0), (1, .int x1)] [] := by
  intro n
  induction n with
  | zero => intro σ x0 x1 hf; cases hf
  | succ n ih =>
    intro σ x0 x1 hf
    rw [fX12_recalls_2] at hf
    refine g_iload_n (j := 1) dX12_recalls_2 rfl rfl ?_
    refine g_bipush (v := 30) dX12_recalls_3 (by decide) ?_
    refine g_icmp_ge (tgt := 50) dX12_recalls_5 (by decide) (fun c1 => ?_) (fun c1 => ?_)
    · rw [if_pos c1] at hf
      refine g_aload_n (j := 0) dX12_recalls_50 rfl rfl ?_
      refine g_aload_n (j := 0) dX12_recalls_51 rfl rfl ?_
      obtain ⟨v2, ev2, hf⟩ := ob hf
      refine g_getI dX12_recalls_52 ev2 t_2028 hin16 hc16 (by decide) rfl ?_
      obtain ⟨σ3, eσ3, hf⟩ := ob hf
      refine g_putI dX12_recalls_55 eσ3 (Or.inl t_2007) hin16 hc16 (by decide) hty16 hnm16 (Or.inl rfl) rfl rfl rfl ?_
      refine g_aload_n (j := 0) dX12_recalls_58 rfl rfl ?_
      refine g_aload_n (j := 0) dX12_recalls_59 rfl rfl ?_
      obtain ⟨v4, ev4, hf⟩ := ob hf
      refine g_getI dX12_recalls_60 ev4 t_2029 hin16 hc16 (by decide) rfl ?_
      obtain ⟨σ5, eσ5, hf⟩ := ob hf
      refine g_putI dX12_recalls_63 eσ5 (Or.inl t_2008) hin16 hc16 (by decide) hty16 hnm16 (Or.inl rfl) rfl rfl rfl ?_
      exact g_vret dX12_recalls_66 rfl hX2 hX1 hf
    · rw [if_neg c1] at hf
      refine g_aload_n (j := 0) dX12_recalls_8 rfl rfl ?_
      obtain ⟨v6, ev6, hf⟩ := ob hf
      refine g_getF dX12_recalls_9 ev6 t_2004 hin16 hc16 (by decide) rfl ?_
      refine g_iload_n (j := 1) dX12_recalls_12 rfl rfl ?_
      refine g_aload_n (j := 0) dX12_recalls_13 rfl rfl ?_
      obtain ⟨v7, ev7, hf⟩ := ob hf
      refine g_getF dX12_recalls_14 ev7 t_2025 hin16 hc16 (by decide) rfl ?_
      refine g_iload_n (j := 1) dX12_recalls_17 rfl rfl ?_
      obtain ⟨v8, ev8, hf⟩ := ob hf
      refine g_iald dX12_recalls_18 ev8 ?_
      obtain ⟨σ9, eσ9, hf⟩ := ob hf
      refine g_iast dX12_recalls_19 eσ9 ?_
      refine g_aload_n (j := 0) dX12_recalls_20 rfl rfl ?_
      obtain ⟨v10, ev10, hf⟩ := ob hf
      refine g_getF dX12_recalls_21 ev10 t_2005 hin16 hc16 (by decide) rfl ?_
      refine g_iload_n (j := 1) dX12_recalls_24 rfl rfl ?_
      refine g_aload_n (j := 0) dX12_recalls_25 rfl rfl ?_
      obtain ⟨v11, ev11, hf⟩ := ob hf
      refine g_getF dX12_recalls_26 ev11 t_2026 hin16 hc16 (by decide) rfl ?_
      refine g_iload_n (j := 1) dX12_recalls_29 rfl rfl ?_
      obtain ⟨v12, ev12, hf⟩ := ob hf
      refine g_iald dX12_recalls_30 ev12 ?_
      obtain ⟨σ13, eσ13, hf⟩ := ob hf
      refine g_iast dX12_recalls_31 eσ13 ?_
      refine g_aload_n (j := 0) dX12_recalls_32 rfl rfl ?_
      obtain ⟨v14, ev14, hf⟩ := ob hf
      refine g_getF dX12_recalls_33 ev14 t_2006 hin16 hc16 (by decide) rfl ?_
      refine g_iload_n (j := 1) dX12_recalls_36 rfl rfl ?_
      refine g_aload_n (j := 0) dX12_recalls_37 rfl rfl ?_
      obtain ⟨v15, ev15, hf⟩ := ob hf
      refine g_getF dX12_recalls_38 ev15 t_2027 hin16 hc16 (by decide) rfl ?_
      refine g_iload_n (j := 1) dX12_recalls_41 rfl rfl ?_
      obtain ⟨v16, ev16, hf⟩ := ob hf
      refine g_iald dX12_recalls_42 ev16 ?_
      obtain ⟨σ17, eσ17, hf⟩ := ob hf
      refine g_iast dX12_recalls_43 eσ17 ?_
      obtain ⟨v18, ev18, hf⟩ := nm_el hf
      refine g_iinc (L' := [(1, .int v18), (0, rv x0)]) (j := 1) (v := v18) dX12_recalls_44 rfl (by rw [ev18]; rfl) (Nat.le_of_ble_eq_true rfl) (by simp [rv_cat]) ?_
      refine g_goto (tgt := 2) dX12_recalls_47 (by decide) ?_
      refine g_sub (L' := [(0, rv x0), (1, .int v18)]) [1, 0] rfl ?_
      exact ih _ _ _ hf

set_option maxRecDepth 100000 in
set_option maxHeartbeats 4000000 in
theorem wX12_recalls (l : Launch) {σ σf : St} {x0 : Nat} {r : Unit} (hf : fX12_recalls σ x0 = some (σf, r)) : Con MtX12_recalls yX12_recalls l σ [rv x0] σf (none) := by
  refine Con.of (by decide +kernel) rfl (fun h => absurd (show false = true from h) (by decide)) (by simp only [sl_n, sl_r, sl_i, sl_l]; exact Nat.le_of_ble_eq_true rfl) ?_
  rw [show lv_args 0 [rv x0] = [(0, rv x0)] by simp only [la_n, la_r, la_i, la_l] <;> rfl]
  have hX1 : ((l, σ, σf, .inl (none)) : Xt).2.2.1 = σf := rfl
  have hX2 : ((l, σ, σf, .inl (none)) : Xt).2.2.2 = .inl (none) := rfl
  unfold fX12_recalls at hf
  refine g_iconst (v := 0) dX12_recalls_0 (by decide) ?_
  refine g_istore_n (i := 1) (L' := [(1, .int 0), (0, rv x0)]) dX12_recalls_1 rfl (Nat.le_of_ble_eq_true rfl) (by simp [rv_cat]) ?_
  refine g_sub (L' := [(0, rv x0), (1, .int 0)]) [1, 0] rfl ?_
  exact bX12_recalls_2 hX1 hX2 FU _ _ _ hf

theorem okX12_recalls (M : Mt) (h1 : 1 + 1 ≤ M.2.2.2.2.1) (h2 : 8 + (2 + 11) + 84 ≤ M.2.2.2.2.2.1) : CallOk M MtX12_recalls yX12_recalls 0 := ⟨t_2510, h1, h2, ⟨by decide, by decide⟩, by decide +kernel, t_16⟩
abbrev MtX12_readsState : Mt := (cX12_readsState, 6, "ExactlySaidModel", none, 1, 84, false)
set_option maxRecDepth 100000 in
set_option maxHeartbeats 4000000 in
theorem bX12_readsState_99 {X : Xt} {σf : St} {r : Unit} (hX1 : X.2.2.1 = σf) (hX2 : X.2.2.2 = .inl (none)) {k77 : St → Nat → Nat → Int32 → Int32 → Option (St × Unit)} (hk77 : ∀ (σ : St) (x0 : Nat) (x1 : Nat) (x3 : Int32) (x4 : Int32), k77 σ x0 x1 x3 x4 = some (σf, r) → G MtX12_readsState X σ 77 [(0, rv x0), (1, rv x1), (3, .int x3), (4, .int x4)] []) : ∀ (n : Nat) (σ : St) (x0 : Nat) (x1 : Nat) (x3 : Int32) (x4 : Int32) (x5 : Int32), fX12_readsState_99 k77 n σ x0 x1 x3 x4 x5 = some (σf, r) → G MtX12_readsState X σ 99 [(0, rv x0), (1, rv x1), (3, .int x3), (4, .int x4), (5, .int x5)] [] := by
  intro n
  induction n with
  | zero => intro σ x0 x1 x3 x4 x5 hf; cases hf
  | succ n ih =>
    intro σ x0 x1 x3 x4 x5 hf
    rw [fX12_readsState_99] at hf
    refine g_iload (j := 4) dX12_readsState_99 rfl ?_
    refine g_bipush (v := 50) dX12_readsState_101 (by decide) ?_
    refine g_icmp_ge (tgt := 131) dX12_readsState_103 (by decide) (fun c1 => ?_) (fun c1 => ?_)
    · rw [if_pos c1] at hf
      obtain ⟨v2, ev2, hf⟩ := nm_el hf
      refine g_iinc (L' := [(4, .int v2), (0, rv x0), (1, rv x1), (3, .int x3), (5, .int x5)]) (j := 3) (v := v2) dX12_readsState_131 rfl (by rw [ev2]; rfl) (Nat.le_of_ble_eq_true rfl) rfl ?_
      refine g_goto (tgt := 77) dX12_readsState_134 (by decide) ?_
      refine g_sub (L' := [(0, rv x0), (1, rv x1), (3, .int x3), (4, .int v2)]) [1, 2, 3, 0] rfl ?_
      exact hk77 _ _ _ _ _ hf
    · rw [if_neg c1] at hf
      refine g_aload_n (j := 0) dX12_readsState_106 rfl rfl ?_
      obtain ⟨v3, ev3, hf⟩ := ob hf
      refine g_getF dX12_readsState_107 ev3 t_2034 hin16 hc16 (by decide) rfl ?_
      refine g_bipush (v := 50) dX12_readsState_110 (by decide) ?_
      refine g_iload (j := 3) dX12_readsState_112 rfl ?_
      refine g_imul dX12_readsState_114 ?_
      refine g_iload (j := 4) dX12_readsState_115 rfl ?_
      refine g_iadd dX12_readsState_117 ?_
      refine g_aload_n (j := 1) dX12_readsState_118 rfl rfl ?_
      refine g_iload_n (j := 2) dX12_readsState_119 rfl rfl ?_
      obtain ⟨v4, ev4, hf⟩ := ob hf
      refine g_iald dX12_readsState_120 ev4 ?_
      obtain ⟨σ5, eσ5, hf⟩ := ob hf
      refine g_iast dX12_readsState_121 eσ5 ?_
      obtain ⟨v6, ev6, hf⟩ := nm_el hf
      refine g_iinc (L' := [(3, .int v6), (0, rv x0), (1, rv x1), (4, .int x4), (5, .int x5)]) (j := 2) (v := v6) dX12_readsState_122 rfl (by rw [ev6]; rfl) (Nat.le_of_ble_eq_true rfl) rfl ?_
      obtain ⟨v7, ev7, hf⟩ := nm_el hf
      refine g_iinc (L' := [(5, .int v7), (3, .int v6), (0, rv x0), (1, rv x1), (4, .int x4)]) (j := 4) (v := v7) dX12_readsState_125 rfl (by rw [ev7]; rfl) (Nat.le_of_ble_eq_true rfl) rfl ?_
      refine g_goto (tgt := 99) dX12_readsState_128 (by decide) ?_
      refine g_sub (L' := [(0, rv x0), (1, rv x1), (3, .int v6), (4, .int x4), (5, .int v7)]) [2, 3, 1, 4, 0] rfl ?_
      exact ih _ _ _ _ _ _ hf

set_option maxRecDepth 100000 in
set_option maxHeartbeats 4000000 in
theorem bX12_readsState_77 {X : Xt} {σf : St} {r : Unit} (hX1 : X.2.2.1 = σf) (hX2 : X.2.2.2 = .inl (none)) : ∀ (n : Nat) (σ : St) (x0 : Nat) (x1 : Nat) (x3 : Int32) (x4 : Int32), fX12_readsState_77 n σ x0 x1 x3 x4 = some (σf, r) → G MtX12_readsState X σ 77 [(0, rv x0), (1, rv x1), (3, .int x3), (4, .int x4)] [] := by
  intro n
  induction n with
  | zero => intro σ x0 x1 x3 x4 hf; cases hf
  | succ n ih =>
    intro σ x0 x1 x3 x4 hf
    rw [fX12_readsState_77] at hf
    refine g_iload (j := 3) dX12_readsState_77 rfl ?_
    refine g_iconst (v := 3) dX12_readsState_79 (by decide) ?_
    refine g_icmp_ge (tgt := 137) dX12_readsState_80 (by decide) (fun c1 => ?_) (fun c1 => ?_)
    · rw [if_pos c1] at hf
      exact g_vret dX12_readsState_137 rfl hX2 hX1 hf
    · rw [if_neg c1] at hf
      refine g_aload_n (j := 0) dX12_readsState_83 rfl rfl ?_
      obtain ⟨v2, ev2, hf⟩ := ob hf
      refine g_getF dX12_readsState_84 ev2 t_2035 hin16 hc16 (by decide) rfl ?_
      refine g_iload (j := 3) dX12_readsState_87 rfl ?_
      refine g_aload_n (j := 1) dX12_readsState_89 rfl rfl ?_
      refine g_iload_n (j := 2) dX12_readsState_90 rfl rfl ?_
      obtain ⟨v3, ev3, hf⟩ := ob hf
      refine g_iald dX12_readsState_91 ev3 ?_
      obtain ⟨σ4, eσ4, hf⟩ := ob hf
      refine g_iast dX12_readsState_92 eσ4 ?_
      obtain ⟨v5, ev5, hf⟩ := nm_el hf
      refine g_iinc (L' := [(3, .int v5), (0, rv x0), (1, rv x1), (4, .int x4)]) (j := 2) (v := v5) dX12_readsState_93 rfl (by rw [ev5]; rfl) (Nat.le_of_ble_eq_true rfl) rfl ?_
      refine g_iconst (v := 0) dX12_readsState_96 (by decide) ?_
      refine g_istore (i := 5) (L' := [(5, .int 0), (3, .int v5), (0, rv x0), (1, rv x1), (4, .int x4)]) dX12_readsState_97 (Nat.le_of_ble_eq_true rfl) rfl ?_
      refine g_sub (L' := [(0, rv x0), (1, rv x1), (3, .int v5), (4, .int x4), (5, .int 0)]) [2, 3, 1, 4, 0] rfl ?_
      exact bX12_readsState_99 hX1 hX2 (fun σ x0 x1 x3 x4 hf => ih σ x0 x1 x3 x4 hf) FU _ _ _ _ _ _ hf

set_option maxRecDepth 100000 in
set_option maxHeartbeats 4000000 in
theorem bX12_readsState_24 {X : Xt} {σf : St} {r : Unit} (hX1 : X.2.2.1 = σf) (hX2 : X.2.2.2 = .inl (none)) : ∀ (n : Nat) (σ : St) (x0 : Nat) (x1 : Nat) (x3 : Int32) (x4 : Int32), fX12_readsState_24 n σ x0 x1 x3 x4 = some (σf, r) → G MtX12_readsState X σ 24 [(0, rv x0), (1, rv x1), (3, .int x3), (4, .int x4)] [] := by
  intro n
  induction n with
  | zero => intro σ x0 x1 x3 x4 hf; cases hf
  | succ n ih =>
    intro σ x0 x1 x3 x4 hf
    rw [fX12_readsState_24] at hf
    refine g_iload (j := 3) dX12_readsState_24 rfl ?_
    refine g_bipush (v := 30) dX12_readsState_26 (by decide) ?_
    refine g_icmp_ge (tgt := 74) dX12_readsState_28 (by decide) (fun c1 => ?_) (fun c1 => ?_)
    · rw [if_pos c1] at hf
      refine g_iconst (v := 0) dX12_readsState_74 (by decide) ?_
      refine g_istore (i := 4) (L' := [(4, .int 0), (0, rv x0), (1, rv x1), (3, .int x3)]) dX12_readsState_75 (Nat.le_of_ble_eq_true rfl) rfl ?_
      refine g_sub (L' := [(0, rv x0), (1, rv x1), (3, .int x3), (4, .int 0)]) [1, 2, 3, 0] rfl ?_
      exact bX12_readsState_77 hX1 hX2 FU _ _ _ _ _ hf
    · rw [if_neg c1] at hf
      refine g_aload_n (j := 0) dX12_readsState_31 rfl rfl ?_
      obtain ⟨v2, ev2, hf⟩ := ob hf
      refine g_getF dX12_readsState_32 ev2 t_2004 hin16 hc16 (by decide) rfl ?_
      refine g_iload (j := 3) dX12_readsState_35 rfl ?_
      refine g_aload_n (j := 1) dX12_readsState_37 rfl rfl ?_
      refine g_iload_n (j := 2) dX12_readsState_38 rfl rfl ?_
      obtain ⟨v3, ev3, hf⟩ := ob hf
      refine g_iald dX12_readsState_39 ev3 ?_
      obtain ⟨σ4, eσ4, hf⟩ := ob hf
      refine g_iast dX12_readsState_40 eσ4 ?_
      refine g_aload_n (j := 0) dX12_readsState_41 rfl rfl ?_
      obtain ⟨v5, ev5, hf⟩ := ob hf
      refine g_getF dX12_readsState_42 ev5 t_2005 hin16 hc16 (by decide) rfl ?_
      refine g_iload (j := 3) dX12_readsState_45 rfl ?_
      refine g_aload_n (j := 1) dX12_readsState_47 rfl rfl ?_
      refine g_iload_n (j := 2) dX12_readsState_48 rfl rfl ?_
      refine g_iconst (v := 1) dX12_readsState_49 (by decide) ?_
      refine g_iadd dX12_readsState_50 ?_
      obtain ⟨v6, ev6, hf⟩ := ob hf
      refine g_iald dX12_readsState_51 ev6 ?_
      obtain ⟨σ7, eσ7, hf⟩ := ob hf
      refine g_iast dX12_readsState_52 eσ7 ?_
      refine g_aload_n (j := 0) dX12_readsState_53 rfl rfl ?_
      obtain ⟨v8, ev8, hf⟩ := ob hf
      refine g_getF dX12_readsState_54 ev8 t_2006 hin16 hc16 (by decide) rfl ?_
      refine g_iload (j := 3) dX12_readsState_57 rfl ?_
      refine g_aload_n (j := 1) dX12_readsState_59 rfl rfl ?_
      refine g_iload_n (j := 2) dX12_readsState_60 rfl rfl ?_
      refine g_iconst (v := 2) dX12_readsState_61 (by decide) ?_
      refine g_iadd dX12_readsState_62 ?_
      obtain ⟨v9, ev9, hf⟩ := ob hf
      refine g_iald dX12_readsState_63 ev9 ?_
      obtain ⟨σ10, eσ10, hf⟩ := ob hf
      refine g_iast dX12_readsState_64 eσ10 ?_
      obtain ⟨v11, ev11, hf⟩ := nm_el hf
      refine g_iinc (L' := [(3, .int v11), (0, rv x0), (1, rv x1), (4, .int x4)]) (j := 2) (v := v11) dX12_readsState_65 rfl (by rw [ev11]; rfl) (Nat.le_of_ble_eq_true rfl) rfl ?_
      obtain ⟨v12, ev12, hf⟩ := nm_el hf
      refine g_iinc (L' := [(4, .int v12), (3, .int v11), (0, rv x0), (1, rv x1)]) (j := 3) (v := v12) dX12_readsState_68 rfl (by rw [ev12]; rfl) (Nat.le_of_ble_eq_true rfl) rfl ?_
      refine g_goto (tgt := 24) dX12_readsState_71 (by decide) ?_
      refine g_sub (L' := [(0, rv x0), (1, rv x1), (3, .int v11), (4, .int v12)]) [2, 3, 1, 0] rfl ?_
      exact ih _ _ _ _ _ hf

set_option maxRecDepth 100000 in
set_option maxHeartbeats 4000000 in
theorem wX12_readsState (l : Launch) {σ σf : St} {x0 : Nat} {x1 : Nat} {x2 : Int32} {r : Unit} (hf : fX12_readsState σ x0 x1 x2 = some (σf, r)) : Con MtX12_readsState yX12_readsState l σ [rv x0, rv x1, .int x2] σf (none) := by
  refine Con.of (by decide +kernel) rfl (fun h => absurd (show false = true from h) (by decide)) (by simp only [sl_n, sl_r, sl_i, sl_l]; exact Nat.le_of_ble_eq_true rfl) ?_
  rw [show lv_args 0 [rv x0, rv x1, .int x2] = [(0, rv x0), (1, rv x1), (2, .int x2)] by simp only [la_n, la_r, la_i, la_l] <;> rfl]
  have hX1 : ((l, σ, σf, .inl (none)) : Xt).2.2.1 = σf := rfl
  have hX2 : ((l, σ, σf, .inl (none)) : Xt).2.2.2 = .inl (none) := rfl
  unfold fX12_readsState at hf
  refine g_iload_n (j := 2) dX12_readsState_0 rfl rfl ?_
  refine g_istore_n (i := 3) (L' := [(3, .int x2), (0, rv x0), (1, rv x1), (2, .int x2)]) dX12_readsState_1 rfl (Nat.le_of_ble_eq_true rfl) rfl ?_
  refine g_aload_n (j := 1) dX12_readsState_2 rfl rfl ?_
  refine g_aload_n (j := 2) dX12_readsState_3 rfl rfl ?_
  refine g_iload_n (j := 0) dX12_readsState_4 rfl rfl ?_
  obtain ⟨v1, ev1, hf⟩ := ob hf
  refine g_iald dX12_readsState_5 ev1 ?_
  obtain ⟨σ2, eσ2, hf⟩ := ob hf
  refine g_putI dX12_readsState_6 eσ2 (Or.inl t_2007) hin16 hc16 (by decide) hty16 hnm16 (Or.inl rfl) rfl rfl rfl ?_
  refine g_aload_n (j := 1) dX12_readsState_9 rfl rfl ?_
  refine g_aload_n (j := 2) dX12_readsState_10 rfl rfl ?_
  refine g_iload_n (j := 0) dX12_readsState_11 rfl rfl ?_
  refine g_iconst (v := 1) dX12_readsState_12 (by decide) ?_
  refine g_iadd dX12_readsState_13 ?_
  obtain ⟨v3, ev3, hf⟩ := ob hf
  refine g_iald dX12_readsState_14 ev3 ?_
  obtain ⟨σ4, eσ4, hf⟩ := ob hf
  refine g_putI dX12_readsState_15 eσ4 (Or.inl t_2008) hin16 hc16 (by decide) hty16 hnm16 (Or.inl rfl) rfl rfl rfl ?_
  obtain ⟨v5, ev5, hf⟩ := nm_el hf
  refine g_iinc (L' := [(3, .int v5), (0, rv x0), (1, rv x1), (2, .int x2)]) (j := 0) (v := v5) dX12_readsState_18 rfl (by rw [ev5]; rfl) (Nat.le_of_ble_eq_true rfl) rfl ?_
  refine g_iconst (v := 0) dX12_readsState_21 (by decide) ?_
  refine g_istore (i := 4) (L' := [(4, .int 0), (3, .int v5), (0, rv x0), (1, rv x1), (2, .int x2)]) dX12_readsState_22 (Nat.le_of_ble_eq_true rfl) rfl ?_
  refine g_sub (L' := [(0, rv x0), (1, rv x1), (3, .int v5), (4, .int 0)]) [2, 3, 1, 0] rfl ?_
  exact bX12_readsState_24 hX1 hX2 FU _ _ _ _ _ hf

theorem okX12_readsState (M : Mt) (h1 : 1 + 1 ≤ M.2.2.2.2.1) (h2 : 8 + (6 + 11) + 84 ≤ M.2.2.2.2.2.1) : CallOk M MtX12_readsState yX12_readsState 2 := ⟨t_2518, h1, h2, ⟨by decide, by decide⟩, by decide +kernel, t_16⟩
abbrev MtX12_forgets : Mt := (cX12_forgets, 1, "ExactlySaidModel", none, 2, 109, false)
set_option maxRecDepth 100000 in
set_option maxHeartbeats 4000000 in
theorem wX12_forgets (l : Launch) {σ σf : St} {x0 : Nat} {r : Unit} (hf : fX12_forgets σ x0 = some (σf, r)) : Con MtX12_forgets yX12_forgets l σ [rv x0] σf (none) := by
  refine Con.of (by decide +kernel) rfl (fun h => absurd (show false = true from h) (by decide)) (by simp only [sl_n, sl_r, sl_i, sl_l]; exact Nat.le_of_ble_eq_true rfl) ?_
  rw [show lv_args 0 [rv x0] = [(0, rv x0)] by simp only [la_n, la_r, la_i, la_l] <;> rfl]
  have hX1 : ((l, σ, σf, .inl (none)) : Xt).2.2.1 = σf := rfl
  have hX2 : ((l, σ, σf, .inl (none)) : Xt).2.2.2 = .inl (none) := rfl
  unfold fX12_forgets at hf
  refine g_aload_n (j := 0) dX12_forgets_0 rfl rfl ?_
  refine g_aload_n (j := 0) dX12_forgets_1 rfl rfl ?_
  obtain ⟨v1, ev1, hf⟩ := ob hf
  refine g_getF dX12_forgets_2 ev1 t_2036 hin16 hc16 (by decide) rfl ?_
  refine g_iconst (v := 0) dX12_forgets_5 (by decide) ?_
  obtain ⟨_, h4, hf⟩ := ob hf
  obtain ⟨σ2, v3, eσ2, hf⟩ := cb_el hf
  refine g_callV_v dX12_forgets_6 (wX12_readsState _ eσ2) (okX12_readsState _ (by decide) (by decide)) (ckK_el h4) hc16 t_2515 t_2517 s_X12_readsState rfl (Nat.le_trans (cat_le _) (Nat.le_of_ble_eq_true rfl)) rfl ?_
  exact g_vret dX12_forgets_9 rfl hX2 hX1 hf

theorem okX12_forgets (M : Mt) (h1 : 2 + 1 ≤ M.2.2.2.2.1) (h2 : 8 + (1 + 11) + 109 ≤ M.2.2.2.2.2.1) : CallOk M MtX12_forgets yX12_forgets 0 := ⟨t_2514, h1, h2, ⟨by decide, by decide⟩, by decide +kernel, t_16⟩
abbrev MtX12_changes : Mt := (cX12_changes, 2, "ExactlySaidModel", none, 1, 84, false)
set_option maxRecDepth 100000 in
set_option maxHeartbeats 4000000 in
theorem bX12_changes_52 {X : Xt} {σf : St} {r : Unit} (hX1 : X.2.2.1 = σf) (hX2 : X.2.2.2 = .inl (none)) : ∀ (n : Nat) (σ : St) (x0 : Nat) (x1 : Int32), fX12_changes_52 n σ x0 x1 = some (σf, r) → G MtX12_changes X σ 52 [(0, rv x0), (1, .int x1)] [] := by
  intro n
  induction n with
  | zero => intro σ x0 x1 hf; cases hf
  | succ n ih =>
    intro σ x0 x1 hf
    rw [fX12_changes_52] at hf
    refine g_iload_n (j := 1) dX12_changes_52 rfl rfl ?_
    refine g_sipush (v := 252) dX12_changes_53 (by decide) ?_
    refine g_icmp_ge (tgt := 86) dX12_changes_56 (by decide) (fun c1 => ?_) (fun c1 => ?_)
    · rw [if_pos c1] at hf
      refine g_aload_n (j := 0) dX12_changes_86 rfl rfl ?_
      refine g_dup dX12_changes_87 (rv_cat _) ?_
      obtain ⟨v2, ev2, hf⟩ := ob hf
      refine g_getI dX12_changes_88 ev2 t_2039 hin16 hc16 (by decide) rfl ?_
      refine g_iconst (v := 1) dX12_changes_91 (by decide) ?_
      refine g_iadd dX12_changes_92 ?_
      obtain ⟨σ3, eσ3, hf⟩ := ob hf
      refine g_putI dX12_changes_93 eσ3 (Or.inl t_2039) hin16 hc16 (by decide) hty16 hnm16 (Or.inl rfl) rfl rfl rfl ?_
      refine g_aload_n (j := 0) dX12_changes_96 rfl rfl ?_
      refine g_iconst (v := 0) dX12_changes_97 (by decide) ?_
      obtain ⟨σ4, eσ4, hf⟩ := ob hf
      refine g_putI dX12_changes_98 eσ4 (Or.inl t_2040) hin16 hc16 (by decide) hty16 hnm16 (Or.inl rfl) rfl rfl rfl ?_
      exact g_vret dX12_changes_101 rfl hX2 hX1 hf
    · rw [if_neg c1] at hf
      refine g_aload_n (j := 0) dX12_changes_59 rfl rfl ?_
      obtain ⟨v5, ev5, hf⟩ := ob hf
      refine g_getF dX12_changes_60 ev5 t_2037 hin16 hc16 (by decide) rfl ?_
      refine g_sipush (v := 252) dX12_changes_63 (by decide) ?_
      refine g_aload_n (j := 0) dX12_changes_66 rfl rfl ?_
      obtain ⟨v6, ev6, hf⟩ := ob hf
      refine g_getI dX12_changes_67 ev6 t_2039 hin16 hc16 (by decide) rfl ?_
      refine g_imul dX12_changes_70 ?_
      refine g_iload_n (j := 1) dX12_changes_71 rfl rfl ?_
      refine g_iadd dX12_changes_72 ?_
      refine g_aload_n (j := 0) dX12_changes_73 rfl rfl ?_
      obtain ⟨v7, ev7, hf⟩ := ob hf
      refine g_getF dX12_changes_74 ev7 t_2036 hin16 hc16 (by decide) rfl ?_
      refine g_iload_n (j := 1) dX12_changes_77 rfl rfl ?_
      obtain ⟨v8, ev8, hf⟩ := ob hf
      refine g_iald dX12_changes_78 ev8 ?_
      obtain ⟨σ9, eσ9, hf⟩ := ob hf
      refine g_iast dX12_changes_79 eσ9 ?_
      obtain ⟨v10, ev10, hf⟩ := nm_el hf
      refine g_iinc (L' := [(1, .int v10), (0, rv x0)]) (j := 1) (v := v10) dX12_changes_80 rfl (by rw [ev10]; rfl) (Nat.le_of_ble_eq_true rfl) (by simp [rv_cat]) ?_
      refine g_goto (tgt := 52) dX12_changes_83 (by decide) ?_
      refine g_sub (L' := [(0, rv x0), (1, .int v10)]) [1, 0] rfl ?_
      exact ih _ _ _ hf

set_option maxRecDepth 100000 in
set_option maxHeartbeats 4000000 in
theorem bX12_changes_50 {X : Xt} {σf : St} {r : Unit} (hX1 : X.2.2.1 = σf) (hX2 : X.2.2.2 = .inl (none)) {σ : St} {x0 : Nat} (hf : fX12_changes_50 σ x0 = some (σf, r)) : G MtX12_changes X σ 50 [(0, rv x0)] [] := by
  unfold fX12_changes_50 at hf
  refine g_iconst (v := 0) dX12_changes_50 (by decide) ?_
  refine g_istore_n (i := 1) (L' := [(1, .int 0), (0, rv x0)]) dX12_changes_51 rfl (Nat.le_of_ble_eq_true rfl) (by simp [rv_cat]) ?_
  refine g_sub (L' := [(0, rv x0), (1, .int 0)]) [1, 0] rfl ?_
  exact bX12_changes_52 hX1 hX2 FU _ _ _ hf

set_option maxRecDepth 100000 in
set_option maxHeartbeats 4000000 in
theorem bX12_changes_11 {X : Xt} {σf : St} {r : Unit} (hX1 : X.2.2.1 = σf) (hX2 : X.2.2.2 = .inl (none)) : ∀ (n : Nat) (σ : St) (x0 : Nat) (x1 : Int32), fX12_changes_11 n σ x0 x1 = some (σf, r) → G MtX12_changes X σ 11 [(0, rv x0), (1, .int x1)] [] := by
  intro n
  induction n with
  | zero => intro σ x0 x1 hf; cases hf
  | succ n ih =>
    intro σ x0 x1 hf
    rw [fX12_changes_11] at hf
    refine g_iload_n (j := 1) dX12_changes_11 rfl rfl ?_
    refine g_sipush (v := 4788) dX12_changes_12 (by decide) ?_
    refine g_icmp_ge (tgt := 40) dX12_changes_15 (by decide) (fun c1 => ?_) (fun c1 => ?_)
    · rw [if_pos c1] at hf
      refine g_aload_n (j := 0) dX12_changes_40 rfl rfl ?_
      refine g_dup dX12_changes_41 (rv_cat _) ?_
      obtain ⟨v2, ev2, hf⟩ := ob hf
      refine g_getI dX12_changes_42 ev2 t_2039 hin16 hc16 (by decide) rfl ?_
      refine g_iconst (v := 1) dX12_changes_45 (by decide) ?_
      refine g_isub dX12_changes_46 ?_
      obtain ⟨σ3, eσ3, hf⟩ := ob hf
      refine g_putI dX12_changes_47 eσ3 (Or.inl t_2039) hin16 hc16 (by decide) hty16 hnm16 (Or.inl rfl) rfl rfl rfl ?_
      refine g_sub (L' := [(0, rv x0)]) [0] rfl ?_
      exact bX12_changes_50 hX1 hX2 hf
    · rw [if_neg c1] at hf
      refine g_aload_n (j := 0) dX12_changes_18 rfl rfl ?_
      obtain ⟨v4, ev4, hf⟩ := ob hf
      refine g_getF dX12_changes_19 ev4 t_2037 hin16 hc16 (by decide) rfl ?_
      refine g_iload_n (j := 1) dX12_changes_22 rfl rfl ?_
      refine g_aload_n (j := 0) dX12_changes_23 rfl rfl ?_
      obtain ⟨v5, ev5, hf⟩ := ob hf
      refine g_getF dX12_changes_24 ev5 t_2037 hin16 hc16 (by decide) rfl ?_
      refine g_iload_n (j := 1) dX12_changes_27 rfl rfl ?_
      refine g_sipush (v := 252) dX12_changes_28 (by decide) ?_
      refine g_iadd dX12_changes_31 ?_
      obtain ⟨v6, ev6, hf⟩ := ob hf
      refine g_iald dX12_changes_32 ev6 ?_
      obtain ⟨σ7, eσ7, hf⟩ := ob hf
      refine g_iast dX12_changes_33 eσ7 ?_
      obtain ⟨v8, ev8, hf⟩ := nm_el hf
      refine g_iinc (L' := [(1, .int v8), (0, rv x0)]) (j := 1) (v := v8) dX12_changes_34 rfl (by rw [ev8]; rfl) (Nat.le_of_ble_eq_true rfl) (by simp [rv_cat]) ?_
      refine g_goto (tgt := 11) dX12_changes_37 (by decide) ?_
      refine g_sub (L' := [(0, rv x0), (1, .int v8)]) [1, 0] rfl ?_
      exact ih _ _ _ hf

set_option maxRecDepth 100000 in
set_option maxHeartbeats 4000000 in
theorem wX12_changes (l : Launch) {σ σf : St} {x0 : Nat} {r : Unit} (hf : fX12_changes σ x0 = some (σf, r)) : Con MtX12_changes yX12_changes l σ [rv x0] σf (none) := by
  refine Con.of (by decide +kernel) rfl (fun h => absurd (show false = true from h) (by decide)) (by simp only [sl_n, sl_r, sl_i, sl_l]; exact Nat.le_of_ble_eq_true rfl) ?_
  rw [show lv_args 0 [rv x0] = [(0, rv x0)] by simp only [la_n, la_r, la_i, la_l] <;> rfl]
  have hX1 : ((l, σ, σf, .inl (none)) : Xt).2.2.1 = σf := rfl
  have hX2 : ((l, σ, σf, .inl (none)) : Xt).2.2.2 = .inl (none) := rfl
  unfold fX12_changes at hf
  refine g_aload_n (j := 0) dX12_changes_0 rfl rfl ?_
  obtain ⟨v1, ev1, hf⟩ := ob hf
  refine g_getI dX12_changes_1 ev1 t_2039 hin16 hc16 (by decide) rfl ?_
  refine g_bipush (v := 20) dX12_changes_4 (by decide) ?_
  refine g_icmp_ne (tgt := 50) dX12_changes_6 (by decide) (fun c2 => ?_) (fun c2 => ?_)
  · rw [if_neg c2] at hf
    exact bX12_changes_50 hX1 hX2 hf
  · rw [if_pos c2] at hf
    refine g_iconst (v := 0) dX12_changes_9 (by decide) ?_
    refine g_istore_n (i := 1) (L' := [(1, .int 0), (0, rv x0)]) dX12_changes_10 rfl (Nat.le_of_ble_eq_true rfl) (by simp [rv_cat]) ?_
    refine g_sub (L' := [(0, rv x0), (1, .int 0)]) [1, 0] rfl ?_
    exact bX12_changes_11 hX1 hX2 FU _ _ _ hf

theorem okX12_changes (M : Mt) (h1 : 1 + 1 ≤ M.2.2.2.2.1) (h2 : 8 + (2 + 11) + 84 ≤ M.2.2.2.2.2.1) : CallOk M MtX12_changes yX12_changes 0 := ⟨t_2522, h1, h2, ⟨by decide, by decide⟩, by decide +kernel, t_16⟩
abbrev MtX12_isDone : Mt := (cX12_isDone, 5, "ExactlySaidModel", (Option.some Jvm.ClassFile.FieldType.boolean), 10, 317, false)
set_option maxRecDepth 100000 in
set_option maxHeartbeats 4000000 in
theorem bX12_isDone_178 {X : Xt} {σf : St} {r : Int32} (hX1 : X.2.2.1 = σf) (hX2 : X.2.2.2 = .inl (some (.int r))) : ∀ (n : Nat) (σ : St) (x0 : Nat) (x2 : Int32) (x3 : Int32), fX12_isDone_178 n σ x0 x2 x3 = some (σf, r) → G MtX12_isDone X σ 178 [(0, rv x0), (2, .int x2), (3, .int x3)] [] := by
  intro n
  induction n with
  | zero => intro σ x0 x2 x3 hf; cases hf
  | succ n ih =>
    intro σ x0 x2 x3 hf
    rw [fX12_isDone_178] at hf
    refine g_iload_n (j := 2) dX12_isDone_178 rfl rfl ?_
    refine g_aload_n (j := 0) dX12_isDone_179 rfl rfl ?_
    obtain ⟨v1, ev1, hf⟩ := ob hf
    refine g_getI dX12_isDone_180 ev1 t_2023 hin16 hc16 (by decide) rfl ?_
    refine g_icmp_ge (tgt := 218) dX12_isDone_183 (by decide) (fun c2 => ?_) (fun c2 => ?_)
    · rw [if_pos c2] at hf
      refine g_aload_n (j := 0) dX12_isDone_218 rfl rfl ?_
      refine g_iload_n (j := 1) dX12_isDone_219 rfl rfl ?_
      obtain ⟨σ3, eσ3, hf⟩ := ob hf
      refine g_putI dX12_isDone_220 eσ3 (Or.inl t_2024) hin16 hc16 (by decide) hty16 hnm16 (Or.inl rfl) rfl rfl rfl ?_
      refine g_iconst (v := 1) dX12_isDone_223 (by decide) ?_
      exact g_iret dX12_isDone_224 rfl (by decide) hX2 hX1 hf
    · rw [if_neg c2] at hf
      refine g_aload_n (j := 0) dX12_isDone_186 rfl rfl ?_
      obtain ⟨v4, ev4, hf⟩ := ob hf
      refine g_getF dX12_isDone_187 ev4 t_2017 hin16 hc16 (by decide) rfl ?_
      refine g_iload_n (j := 2) dX12_isDone_190 rfl rfl ?_
      refine g_aload_n (j := 0) dX12_isDone_191 rfl rfl ?_
      obtain ⟨v5, ev5, hf⟩ := ob hf
      refine g_getF dX12_isDone_192 ev5 t_2031 hin16 hc16 (by decide) rfl ?_
      refine g_iload_n (j := 2) dX12_isDone_195 rfl rfl ?_
      obtain ⟨v6, ev6, hf⟩ := ob hf
      refine g_iald dX12_isDone_196 ev6 ?_
      obtain ⟨σ7, eσ7, hf⟩ := ob hf
      refine g_iast dX12_isDone_197 eσ7 ?_
      refine g_aload_n (j := 0) dX12_isDone_198 rfl rfl ?_
      refine g_sipush (v := 200) dX12_isDone_199 (by decide) ?_
      refine g_iload_n (j := 2) dX12_isDone_202 rfl rfl ?_
      refine g_iadd dX12_isDone_203 ?_
      refine g_sipush (v := 400) dX12_isDone_204 (by decide) ?_
      refine g_iload_n (j := 2) dX12_isDone_207 rfl rfl ?_
      refine g_iadd dX12_isDone_208 ?_
      obtain ⟨_, h10, hf⟩ := ob hf
      obtain ⟨σ8, v9, eσ8, hf⟩ := cb_el hf
      refine g_callV_v dX12_isDone_209 (wX12_copiesValue _ eσ8) (okX12_copiesValue _ (by decide) (by decide)) (ckK_el h10) hc16 t_2483 t_2485 s_X12_copiesValue rfl (Nat.le_trans (cat_le _) (Nat.le_of_ble_eq_true rfl)) rfl ?_
      obtain ⟨v11, ev11, hf⟩ := nm_el hf
      refine g_iinc (L' := [(3, .int v11), (0, rv x0), (2, .int x2)]) (j := 2) (v := v11) dX12_isDone_212 rfl (by rw [ev11]; rfl) (Nat.le_of_ble_eq_true rfl) rfl ?_
      refine g_goto (tgt := 178) dX12_isDone_215 (by decide) ?_
      refine g_sub (L' := [(0, rv x0), (2, .int x2), (3, .int v11)]) [1, 2, 0] rfl ?_
      exact ih _ _ _ _ hf

set_option maxRecDepth 100000 in
set_option maxHeartbeats 4000000 in
theorem bX12_isDone_158 {X : Xt} {σf : St} {r : Int32} (hX1 : X.2.2.1 = σf) (hX2 : X.2.2.2 = .inl (some (.int r))) {σ : St} {x0 : Nat} {x2 : Int32} (hf : fX12_isDone_158 σ x0 x2 = some (σf, r)) : G MtX12_isDone X σ 158 [(0, rv x0), (2, .int x2)] [] := by
  unfold fX12_isDone_158 at hf
  refine g_aload_n (j := 0) dX12_isDone_158 rfl rfl ?_
  obtain ⟨v1, ev1, hf⟩ := ob hf
  refine g_getI dX12_isDone_159 ev1 t_1999 hin16 hc16 (by decide) rfl ?_
  refine g_iconst (v := 2) dX12_isDone_162 (by decide) ?_
  refine g_icmp_ne (tgt := 168) dX12_isDone_163 (by decide) (fun c2 => ?_) (fun c2 => ?_)
  · rw [if_neg c2] at hf
    refine g_aload_n (j := 0) dX12_isDone_168 rfl rfl ?_
    refine g_aload_n (j := 0) dX12_isDone_169 rfl rfl ?_
    obtain ⟨v3, ev3, hf⟩ := ob hf
    refine g_getI dX12_isDone_170 ev3 t_2032 hin16 hc16 (by decide) rfl ?_
    obtain ⟨σ4, eσ4, hf⟩ := ob hf
    refine g_putI dX12_isDone_173 eσ4 (Or.inl t_2023) hin16 hc16 (by decide) hty16 hnm16 (Or.inl rfl) rfl rfl rfl ?_
    refine g_iconst (v := 0) dX12_isDone_176 (by decide) ?_
    refine g_istore_n (i := 3) (L' := [(3, .int 0), (0, rv x0), (2, .int x2)]) dX12_isDone_177 rfl (Nat.le_of_ble_eq_true rfl) rfl ?_
    refine g_sub (L' := [(0, rv x0), (2, .int x2), (3, .int 0)]) [1, 2, 0] rfl ?_
    exact bX12_isDone_178 hX1 hX2 FU _ _ _ _ hf
  · rw [if_pos c2] at hf
    refine g_iconst (v := 1) dX12_isDone_166 (by decide) ?_
    exact g_iret dX12_isDone_167 rfl (by decide) hX2 hX1 hf

set_option maxRecDepth 100000 in
set_option maxHeartbeats 4000000 in
theorem bX12_isDone_108 {X : Xt} {σf : St} {r : Int32} (hX1 : X.2.2.1 = σf) (hX2 : X.2.2.2 = .inl (some (.int r))) {σ : St} {x0 : Nat} {x1 : Int32} {x2 : Int32} (hf : fX12_isDone_108 σ x0 x1 x2 = some (σf, r)) : G MtX12_isDone X σ 108 [(0, rv x0), (1, .int x1), (2, .int x2)] [] := by
  unfold fX12_isDone_108 at hf
  refine g_aload_n (j := 0) dX12_isDone_108 rfl rfl ?_
  obtain ⟨v1, ev1, hf⟩ := ob hf
  refine g_getI dX12_isDone_109 ev1 t_1999 hin16 hc16 (by decide) rfl ?_
  refine g_if_le (tgt := 158) dX12_isDone_112 (by decide) (fun c2 => ?_) (fun c2 => ?_)
  · rw [if_pos c2] at hf
    refine g_sub (L' := [(0, rv x0), (2, .int x2)]) [0, 2] rfl ?_
    exact bX12_isDone_158 hX1 hX2 hf
  · rw [if_neg c2] at hf
    refine g_aload_n (j := 0) dX12_isDone_115 rfl rfl ?_
    obtain ⟨_, h5, hf⟩ := ob hf
    obtain ⟨σ3, v4, eσ3, hf⟩ := cb_el hf
    refine g_callV_v dX12_isDone_116 (wX12_remembers _ eσ3) (okX12_remembers _ (by decide) (by decide)) (ckK_el h5) hc16 t_2487 t_2489 s_X12_remembers rfl (Nat.le_trans (cat_le _) (Nat.le_of_ble_eq_true rfl)) rfl ?_
    refine g_aload_n (j := 0) dX12_isDone_119 rfl rfl ?_
    obtain ⟨_, h8, hf⟩ := ob hf
    obtain ⟨σ6, v7, eσ6, hf⟩ := cb_el hf
    refine g_callV_v dX12_isDone_120 (wX12_saves _ eσ6) (okX12_saves _ (by decide) (by decide)) (ckK_el h8) hc16 t_2491 t_2493 s_X12_saves rfl (Nat.le_trans (cat_le _) (Nat.le_of_ble_eq_true rfl)) rfl ?_
    refine g_aload_n (j := 0) dX12_isDone_123 rfl rfl ?_
    refine g_iload_n (j := 1) dX12_isDone_124 rfl rfl ?_
    obtain ⟨_, h11, hf⟩ := ob hf
    obtain ⟨σ9, v10, eσ9, hf⟩ := cb_el hf
    refine g_callV_i dX12_isDone_125 (wX12_placed _ eσ9) (okX12_placed _ (by decide) (by decide)) (ckK_el h11) hc16 t_2499 t_2501 s_X12_placed rfl (Nat.le_trans (cat_le _) (Nat.le_of_ble_eq_true rfl)) rfl ?_
    refine g_istore_n (i := 3) (L' := [(3, .int v10), (0, rv x0), (1, .int x1), (2, .int x2)]) dX12_isDone_128 rfl (Nat.le_of_ble_eq_true rfl) rfl ?_
    refine g_aload_n (j := 1) dX12_isDone_129 rfl rfl ?_
    obtain ⟨v12, ev12, hf⟩ := ob hf
    refine g_getF dX12_isDone_130 ev12 t_2006 hin16 hc16 (by decide) rfl ?_
    refine g_iload_n (j := 0) dX12_isDone_133 rfl rfl ?_
    refine g_iload_n (j := 3) dX12_isDone_134 rfl rfl ?_
    obtain ⟨σ13, eσ13, hf⟩ := ob hf
    refine g_iast dX12_isDone_135 eσ13 ?_
    refine g_aload_n (j := 1) dX12_isDone_136 rfl rfl ?_
    refine g_iload_n (j := 0) dX12_isDone_137 rfl rfl ?_
    obtain ⟨_, h16, hf⟩ := ob hf
    obtain ⟨σ14, v15, eσ14, hf⟩ := cb_el hf
    refine g_callV_i dX12_isDone_138 (wX12_renews _ eσ14) (okX12_renews _ (by decide) (by decide)) (ckK_el h16) hc16 t_2503 t_2505 s_X12_renews rfl (Nat.le_trans (cat_le _) (Nat.le_of_ble_eq_true rfl)) rfl ?_
    refine g_if_ne (tgt := 154) dX12_isDone_141 (by decide) (fun c17 => ?_) (fun c17 => ?_)
    · rw [if_neg c17] at hf
      refine g_aload_n (j := 1) dX12_isDone_154 rfl rfl ?_
      obtain ⟨_, h20, hf⟩ := ob hf
      obtain ⟨σ18, v19, eσ18, hf⟩ := cb_el hf
      refine g_callV_v dX12_isDone_155 (wX12_changes _ eσ18) (okX12_changes _ (by decide) (by decide)) (ckK_el h20) hc16 t_2519 t_2521 s_X12_changes rfl (Nat.le_trans (cat_le _) (Nat.le_of_ble_eq_true rfl)) rfl ?_
      refine g_sub (L' := [(0, rv x0), (2, .int x2)]) [1, 3] rfl ?_
      exact bX12_isDone_158 hX1 hX2 hf
    · rw [if_pos c17] at hf
      refine g_aload_n (j := 1) dX12_isDone_144 rfl rfl ?_
      obtain ⟨_, h23, hf⟩ := ob hf
      obtain ⟨σ21, v22, eσ21, hf⟩ := cb_el hf
      refine g_callV_v dX12_isDone_145 (wX12_recalls _ eσ21) (okX12_recalls _ (by decide) (by decide)) (ckK_el h23) hc16 t_2507 t_2509 s_X12_recalls rfl (Nat.le_trans (cat_le _) (Nat.le_of_ble_eq_true rfl)) rfl ?_
      refine g_aload_n (j := 1) dX12_isDone_148 rfl rfl ?_
      obtain ⟨_, h26, hf⟩ := ob hf
      obtain ⟨σ24, v25, eσ24, hf⟩ := cb_el hf
      refine g_callV_v dX12_isDone_149 (wX12_forgets _ eσ24) (okX12_forgets _ (by decide) (by decide)) (ckK_el h26) hc16 t_2511 t_2513 s_X12_forgets rfl (Nat.le_trans (cat_le _) (Nat.le_of_ble_eq_true rfl)) rfl ?_
      refine g_iconst (v := 0) dX12_isDone_152 (by decide) ?_
      exact g_iret dX12_isDone_153 rfl (by decide) hX2 hX1 hf

set_option maxRecDepth 100000 in
set_option maxHeartbeats 4000000 in
theorem bX12_isDone_54 {X : Xt} {σf : St} {r : Int32} (hX1 : X.2.2.1 = σf) (hX2 : X.2.2.2 = .inl (some (.int r))) : ∀ (n : Nat) (σ : St) (x0 : Nat) (x1 : Int32) (x2 : Int32) (x4 : Int32), fX12_isDone_54 n σ x0 x1 x2 x4 = some (σf, r) → G MtX12_isDone X σ 54 [(0, rv x0), (1, .int x1), (2, .int x2), (4, .int x4)] [] := by
  intro n
  induction n with
  | zero => intro σ x0 x1 x2 x4 hf; cases hf
  | succ n ih =>
    intro σ x0 x1 x2 x4 hf
    rw [fX12_isDone_54] at hf
    refine g_iload (j := 3) dX12_isDone_54 rfl ?_
    refine g_aload_n (j := 0) dX12_isDone_56 rfl rfl ?_
    obtain ⟨v1, ev1, hf⟩ := ob hf
    refine g_getI dX12_isDone_57 ev1 t_2022 hin16 hc16 (by decide) rfl ?_
    refine g_icmp_ge (tgt := 100) dX12_isDone_60 (by decide) (fun c2 => ?_) (fun c2 => ?_)
    · rw [if_pos c2] at hf
      refine g_aload_n (j := 0) dX12_isDone_100 rfl rfl ?_
      refine g_aload_n (j := 0) dX12_isDone_101 rfl rfl ?_
      obtain ⟨v3, ev3, hf⟩ := ob hf
      refine g_getI dX12_isDone_102 ev3 t_2022 hin16 hc16 (by decide) rfl ?_
      obtain ⟨σ4, eσ4, hf⟩ := ob hf
      refine g_putI dX12_isDone_105 eσ4 (Or.inl t_2032) hin16 hc16 (by decide) hty16 hnm16 (Or.inl rfl) rfl rfl rfl ?_
      refine g_sub (L' := [(0, rv x0), (1, .int x1), (2, .int x2)]) [0, 1, 2] rfl ?_
      exact bX12_isDone_108 hX1 hX2 hf
    · rw [if_neg c2] at hf
      refine g_aload_n (j := 0) dX12_isDone_63 rfl rfl ?_
      obtain ⟨v5, ev5, hf⟩ := ob hf
      refine g_getF dX12_isDone_64 ev5 t_2031 hin16 hc16 (by decide) rfl ?_
      refine g_iload (j := 3) dX12_isDone_67 rfl ?_
      refine g_aload_n (j := 0) dX12_isDone_69 rfl rfl ?_
      obtain ⟨v6, ev6, hf⟩ := ob hf
      refine g_getF dX12_isDone_70 ev6 t_2015 hin16 hc16 (by decide) rfl ?_
      refine g_iload (j := 3) dX12_isDone_73 rfl ?_
      obtain ⟨v7, ev7, hf⟩ := ob hf
      refine g_iald dX12_isDone_75 ev7 ?_
      obtain ⟨σ8, eσ8, hf⟩ := ob hf
      refine g_iast dX12_isDone_76 eσ8 ?_
      refine g_aload_n (j := 0) dX12_isDone_77 rfl rfl ?_
      refine g_sipush (v := 400) dX12_isDone_78 (by decide) ?_
      refine g_iload (j := 3) dX12_isDone_81 rfl ?_
      refine g_iadd dX12_isDone_83 ?_
      refine g_aload_n (j := 0) dX12_isDone_84 rfl rfl ?_
      obtain ⟨v9, ev9, hf⟩ := ob hf
      refine g_getF dX12_isDone_85 ev9 t_2016 hin16 hc16 (by decide) rfl ?_
      refine g_iload (j := 3) dX12_isDone_88 rfl ?_
      obtain ⟨v10, ev10, hf⟩ := ob hf
      refine g_iald dX12_isDone_90 ev10 ?_
      obtain ⟨_, h13, hf⟩ := ob hf
      obtain ⟨σ11, v12, eσ11, hf⟩ := cb_el hf
      refine g_callV_v dX12_isDone_91 (wX12_copiesValue _ eσ11) (okX12_copiesValue _ (by decide) (by decide)) (ckK_el h13) hc16 t_2483 t_2485 s_X12_copiesValue rfl (Nat.le_trans (cat_le _) (Nat.le_of_ble_eq_true rfl)) rfl ?_
      obtain ⟨v14, ev14, hf⟩ := nm_el hf
      refine g_iinc (L' := [(4, .int v14), (0, rv x0), (1, .int x1), (2, .int x2)]) (j := 3) (v := v14) dX12_isDone_94 rfl (by rw [ev14]; rfl) (Nat.le_of_ble_eq_true rfl) rfl ?_
      refine g_goto (tgt := 54) dX12_isDone_97 (by decide) ?_
      refine g_sub (L' := [(0, rv x0), (1, .int x1), (2, .int x2), (4, .int v14)]) [1, 2, 3, 0] rfl ?_
      exact ih _ _ _ _ _ hf

set_option maxRecDepth 100000 in
set_option maxHeartbeats 4000000 in
theorem bX12_isDone_50 {X : Xt} {σf : St} {r : Int32} (hX1 : X.2.2.1 = σf) (hX2 : X.2.2.2 = .inl (some (.int r))) {σ : St} {x0 : Nat} {x1 : Int32} {y0 : Int32} (hf : fX12_isDone_50 σ x0 x1 y0 = some (σf, r)) : G MtX12_isDone X σ 50 [(0, rv x0), (1, .int x1)] [.int y0] := by
  unfold fX12_isDone_50 at hf
  refine g_istore_n (i := 2) (L' := [(2, .int y0), (0, rv x0), (1, .int x1)]) dX12_isDone_50 rfl (Nat.le_of_ble_eq_true rfl) rfl ?_
  refine g_iconst (v := 0) dX12_isDone_51 (by decide) ?_
  refine g_istore (i := 4) (L' := [(4, .int 0), (2, .int y0), (0, rv x0), (1, .int x1)]) dX12_isDone_52 (Nat.le_of_ble_eq_true rfl) rfl ?_
  refine g_sub (L' := [(0, rv x0), (1, .int x1), (2, .int y0), (4, .int 0)]) [2, 3, 1, 0] rfl ?_
  exact bX12_isDone_54 hX1 hX2 FU _ _ _ _ _ hf

set_option maxRecDepth 100000 in
set_option maxHeartbeats 4000000 in
theorem wX12_isDone (l : Launch) {σ σf : St} {x0 : Nat} {x1 : Int32} {r : Int32} (hf : fX12_isDone σ x0 x1 = some (σf, r)) : Con MtX12_isDone yX12_isDone l σ [rv x0, .int x1] σf (some (.int r)) := by
  refine Con.of (by decide +kernel) rfl (fun h => absurd (show false = true from h) (by decide)) (by simp only [sl_n, sl_r, sl_i, sl_l]; exact Nat.le_of_ble_eq_true rfl) ?_
  rw [show lv_args 0 [rv x0, .int x1] = [(0, rv x0), (1, .int x1)] by simp only [la_n, la_r, la_i, la_l] <;> rfl]
  have hX1 : ((l, σ, σf, .inl (some (.int r))) : Xt).2.2.1 = σf := rfl
  have hX2 : ((l, σ, σf, .inl (some (.int r))) : Xt).2.2.2 = .inl (some (.int r)) := rfl
  unfold fX12_isDone at hf
  refine g_aload_n (j := 0) dX12_isDone_0 rfl rfl ?_
  refine g_iload_n (j := 1) dX12_isDone_1 rfl rfl ?_
  obtain ⟨_, h3, hf⟩ := ob hf
  obtain ⟨σ1, v2, eσ1, hf⟩ := cb_el hf
  refine g_callV_i dX12_isDone_2 (wX12_isRefused _ eσ1) (okX12_isRefused _ (by decide) (by decide)) (ckK_el h3) hc16 t_2349 t_2351 s_X12_isRefused rfl (Nat.le_trans (cat_le _) (Nat.le_of_ble_eq_true rfl)) rfl ?_
  refine g_if_eq (tgt := 10) dX12_isDone_5 (by decide) (fun c4 => ?_) (fun c4 => ?_)
  · rw [if_pos c4] at hf
    refine g_iconst (v := (-1)) dX12_isDone_10 (by decide) ?_
    refine g_istore_n (i := 2) (L' := [(2, .int ((-1))), (0, rv x0), (1, .int x1)]) dX12_isDone_11 rfl (Nat.le_of_ble_eq_true rfl) rfl ?_
    refine g_aload_n (j := 1) dX12_isDone_12 rfl rfl ?_
    obtain ⟨v5, ev5, hf⟩ := ob hf
    refine g_getI dX12_isDone_13 ev5 t_1999 hin16 hc16 (by decide) rfl ?_
    refine g_iconst (v := 2) dX12_isDone_16 (by decide) ?_
    refine g_icmp_ge (tgt := 108) dX12_isDone_17 (by decide) (fun c6 => ?_) (fun c6 => ?_)
    · rw [if_pos c6] at hf
      refine g_sub (L' := [(0, rv x0), (1, .int x1), (2, .int ((-1)))]) [1, 2, 0] rfl ?_
      exact bX12_isDone_108 hX1 hX2 hf
    · rw [if_neg c6] at hf
      refine g_aload_n (j := 1) dX12_isDone_20 rfl rfl ?_
      refine g_iload_n (j := 2) dX12_isDone_21 rfl rfl ?_
      obtain ⟨_, h9, hf⟩ := ob hf
      obtain ⟨σ7, v8, eσ7, hf⟩ := cb_el hf
      refine g_callV_i dX12_isDone_22 (wX12_worked _ eσ7) (okX12_worked _ (by decide) (by decide)) (ckK_el h9) hc16 t_2403 t_2405 s_X12_worked rfl (Nat.le_trans (cat_le _) (Nat.le_of_ble_eq_true rfl)) rfl ?_
      refine g_istore_n (i := 3) (L' := [(3, .int v8), (2, .int ((-1))), (0, rv x0), (1, .int x1)]) dX12_isDone_25 rfl (Nat.le_of_ble_eq_true rfl) rfl ?_
      refine g_iload_n (j := 0) dX12_isDone_26 rfl rfl ?_
      refine g_iconst (v := (-1)) dX12_isDone_27 (by decide) ?_
      refine g_icmp_ne (tgt := 33) dX12_isDone_28 (by decide) (fun c10 => ?_) (fun c10 => ?_)
      · rw [if_neg c10] at hf
        refine g_aload_n (j := 2) dX12_isDone_33 rfl rfl ?_
        obtain ⟨v11, ev11, hf⟩ := ob hf
        refine g_getI dX12_isDone_34 ev11 t_1999 hin16 hc16 (by decide) rfl ?_
        refine g_iconst (v := 1) dX12_isDone_37 (by decide) ?_
        refine g_icmp_ne (tgt := 49) dX12_isDone_38 (by decide) (fun c12 => ?_) (fun c12 => ?_)
        · rw [if_neg c12] at hf
          refine g_iload_n (j := 0) dX12_isDone_49 rfl rfl ?_
          refine g_sub (L' := [(0, rv x0), (1, .int x1)]) [2, 3] rfl ?_
          exact bX12_isDone_50 hX1 hX2 hf
        · rw [if_pos c12] at hf
          refine g_aload_n (j := 2) dX12_isDone_41 rfl rfl ?_
          refine g_iload_n (j := 0) dX12_isDone_42 rfl rfl ?_
          obtain ⟨_, h15, hf⟩ := ob hf
          obtain ⟨σ13, v14, eσ13, hf⟩ := cb_el hf
          refine g_callV_i dX12_isDone_43 (wX12_keeps _ eσ13) (okX12_keeps _ (by decide) (by decide)) (ckK_el h15) hc16 t_2479 t_2481 s_X12_keeps rfl (Nat.le_trans (cat_le _) (Nat.le_of_ble_eq_true rfl)) rfl ?_
          refine g_goto (tgt := 50) dX12_isDone_46 (by decide) ?_
          refine g_sub (L' := [(0, rv x0), (1, .int x1)]) [2, 3] rfl ?_
          exact bX12_isDone_50 hX1 hX2 hf
      · rw [if_pos c10] at hf
        refine g_iconst (v := 0) dX12_isDone_31 (by decide) ?_
        exact g_iret dX12_isDone_32 rfl (by decide) hX2 hX1 hf
  · rw [if_neg c4] at hf
    refine g_iconst (v := 0) dX12_isDone_8 (by decide) ?_
    exact g_iret dX12_isDone_9 rfl (by decide) hX2 hX1 hf

theorem okX12_isDone (M : Mt) (h1 : 10 + 1 ≤ M.2.2.2.2.1) (h2 : 8 + (5 + 11) + 317 ≤ M.2.2.2.2.2.1) : CallOk M MtX12_isDone yX12_isDone 1 := ⟨t_2348, h1, h2, ⟨by decide, by decide⟩, by decide +kernel, t_16⟩
abbrev MtX12_run : Mt := (cX12_run, 5, "ExactlySaidModel", (Option.some Jvm.ClassFile.FieldType.int), 12, 343, false)
set_option maxRecDepth 100000 in
set_option maxHeartbeats 4000000 in
theorem bX12_run_208 {X : Xt} {σf : St} {r : Int32} (hX1 : X.2.2.1 = σf) (hX2 : X.2.2.2 = .inl (some (.int r))) {σ : St} {x0 : Nat} {x3 : Int32} (hf : fX12_run_208 σ x0 x3 = some (σf, r)) : G MtX12_run X σ 208 [(0, rv x0), (3, .int x3)] [] := by
  unfold fX12_run_208 at hf
  refine g_aload_n (j := 0) dX12_run_208 rfl rfl ?_
  refine g_iload_n (j := 1) dX12_run_209 rfl rfl ?_
  refine g_iconst (v := 2) dX12_run_210 (by decide) ?_
  obtain ⟨_, h3, hf⟩ := ob hf
  obtain ⟨σ1, v2, eσ1, hf⟩ := cb_el hf
  refine g_callV_i dX12_run_211 (wX12_fails _ eσ1) (okX12_fails _ (by decide) (by decide)) (ckK_el h3) hc16 t_2225 t_2227 s_X12_fails rfl (Nat.le_trans (cat_le _) (Nat.le_of_ble_eq_true rfl)) rfl ?_
  refine g_if_eq (tgt := 221) dX12_run_214 (by decide) (fun c4 => ?_) (fun c4 => ?_)
  · rw [if_pos c4] at hf
    refine g_aload_n (j := 0) dX12_run_221 rfl rfl ?_
    obtain ⟨v5, ev5, hf⟩ := ob hf
    refine g_getI dX12_run_222 ev5 t_1999 hin16 hc16 (by decide) rfl ?_
    exact g_iret dX12_run_225 rfl rfl hX2 hX1 hf
  · rw [if_neg c4] at hf
    refine g_iconst (v := 0) dX12_run_217 (by decide) ?_
    refine g_goto (tgt := 225) dX12_run_218 (by decide) ?_
    exact g_iret dX12_run_225 rfl rfl hX2 hX1 hf

set_option maxRecDepth 100000 in
set_option maxHeartbeats 4000000 in
theorem bX12_run_146 {X : Xt} {σf : St} {r : Int32} (hX1 : X.2.2.1 = σf) (hX2 : X.2.2.2 = .inl (some (.int r))) {σ : St} {x0 : Nat} {x1 : Int32} {x2 : Int32} {x3 : Int32} (hf : fX12_run_146 σ x0 x1 x2 x3 = some (σf, r)) : G MtX12_run X σ 146 [(0, rv x0), (1, .int x1), (2, .int x2), (3, .int x3)] [] := by
  unfold fX12_run_146 at hf
  refine g_aload_n (j := 0) dX12_run_146 rfl rfl ?_
  refine g_iload_n (j := 1) dX12_run_147 rfl rfl ?_
  obtain ⟨σ1, eσ1, hf⟩ := ob hf
  refine g_putI dX12_run_148 eσ1 (Or.inl t_1988) hin16 hc16 (by decide) hty16 hnm16 (Or.inl rfl) rfl rfl rfl ?_
  refine g_aload_n (j := 0) dX12_run_151 rfl rfl ?_
  refine g_iload_n (j := 2) dX12_run_152 rfl rfl ?_
  obtain ⟨σ2, eσ2, hf⟩ := ob hf
  refine g_putI dX12_run_153 eσ2 (Or.inl t_1972) hin16 hc16 (by decide) hty16 hnm16 (Or.inl rfl) rfl rfl rfl ?_
  refine g_aload_n (j := 0) dX12_run_156 rfl rfl ?_
  refine g_dup dX12_run_157 (rv_cat _) ?_
  obtain ⟨v3, ev3, hf⟩ := ob hf
  refine g_getI dX12_run_158 ev3 t_1992 hin16 hc16 (by decide) rfl ?_
  refine g_iconst (v := 1) dX12_run_161 (by decide) ?_
  refine g_isub dX12_run_162 ?_
  obtain ⟨σ4, eσ4, hf⟩ := ob hf
  refine g_putI dX12_run_163 eσ4 (Or.inl t_1992) hin16 hc16 (by decide) hty16 hnm16 (Or.inl rfl) rfl rfl rfl ?_
  refine g_iload_n (j := 3) dX12_run_166 rfl rfl ?_
  refine g_if_eq (tgt := 208) dX12_run_167 (by decide) (fun c5 => ?_) (fun c5 => ?_)
  · rw [if_pos c5] at hf
    refine g_sub (L' := [(0, rv x0), (3, .int x3)]) [0, 3] rfl ?_
    exact bX12_run_208 hX1 hX2 hf
  · rw [if_neg c5] at hf
    refine g_aload_n (j := 0) dX12_run_170 rfl rfl ?_
    obtain ⟨v6, ev6, hf⟩ := ob hf
    refine g_getI dX12_run_171 ev6 t_2024 hin16 hc16 (by decide) rfl ?_
    refine g_sipush (v := 600) dX12_run_174 (by decide) ?_
    refine g_iload_n (j := 2) dX12_run_177 rfl rfl ?_
    refine g_iconst (v := 1) dX12_run_178 (by decide) ?_
    refine g_isub dX12_run_179 ?_
    obtain ⟨σ7, v8, eσ7, hf⟩ := cb_el hf
    refine g_callS_i dX12_run_180 (wX12_in _ eσ7) (okX12_in _ (by decide) (by decide)) t_2257 t_2258 rfl (Nat.le_trans (cat_le _) (Nat.le_of_ble_eq_true rfl)) rfl ?_
    refine g_if_ne (tgt := 208) dX12_run_183 (by decide) (fun c9 => ?_) (fun c9 => ?_)
    · rw [if_neg c9] at hf
      refine g_sub (L' := [(0, rv x0), (3, .int x3)]) [0, 3] rfl ?_
      exact bX12_run_208 hX1 hX2 hf
    · rw [if_pos c9] at hf
      refine g_aload_n (j := 0) dX12_run_186 rfl rfl ?_
      obtain ⟨_, h12, hf⟩ := ob hf
      obtain ⟨σ10, v11, eσ10, hf⟩ := cb_el hf
      refine g_callV_i dX12_run_187 (wX12_newValue _ eσ10) (okX12_newValue _ (by decide) (by decide)) (ckK_el h12) hc16 t_1907 t_1909 s_X12_newValue rfl (Nat.le_trans (cat_le _) (Nat.le_of_ble_eq_true rfl)) rfl ?_
      refine g_istore (i := 4) (L' := [(4, .int v11), (0, rv x0), (1, .int x1), (2, .int x2), (3, .int x3)]) dX12_run_190 (Nat.le_of_ble_eq_true rfl) rfl ?_
      refine g_aload_n (j := 1) dX12_run_192 rfl rfl ?_
      refine g_iload (j := 0) dX12_run_193 rfl ?_
      refine g_aload_n (j := 1) dX12_run_195 rfl rfl ?_
      obtain ⟨v13, ev13, hf⟩ := ob hf
      refine g_getI dX12_run_196 ev13 t_2024 hin16 hc16 (by decide) rfl ?_
      obtain ⟨_, h16, hf⟩ := ob hf
      obtain ⟨σ14, v15, eσ14, hf⟩ := cb_el hf
      refine g_callV_v dX12_run_199 (wX12_copiesValue _ eσ14) (okX12_copiesValue _ (by decide) (by decide)) (ckK_el h16) hc16 t_2483 t_2485 s_X12_copiesValue rfl (Nat.le_trans (cat_le _) (Nat.le_of_ble_eq_true rfl)) rfl ?_
      refine g_aload_n (j := 1) dX12_run_202 rfl rfl ?_
      refine g_iload (j := 0) dX12_run_203 rfl ?_
      obtain ⟨σ17, eσ17, hf⟩ := ob hf
      refine g_putI dX12_run_205 eσ17 (Or.inl t_2024) hin16 hc16 (by decide) hty16 hnm16 (Or.inl rfl) rfl rfl rfl ?_
      refine g_sub (L' := [(0, rv x0), (3, .int x3)]) [1, 4] rfl ?_
      exact bX12_run_208 hX1 hX2 hf

set_option maxRecDepth 100000 in
set_option maxHeartbeats 4000000 in
theorem bX12_run_113 {X : Xt} {σf : St} {r : Int32} (hX1 : X.2.2.1 = σf) (hX2 : X.2.2.2 = .inl (some (.int r))) {σ : St} {x0 : Nat} {x1 : Int32} {x2 : Int32} {y0 : Nat} {y1 : Int32} {y2 : Int32} (hf : fX12_run_113 σ x0 x1 x2 y0 y1 y2 = some (σf, r)) : G MtX12_run X σ 113 [(0, rv x0), (1, .int x1), (2, .int x2)] [.int y2, .int y1, rv y0] := by
  unfold fX12_run_113 at hf
  obtain ⟨σ1, eσ1, hf⟩ := ob hf
  refine g_iast dX12_run_113 eσ1 ?_
  refine g_aload_n (j := 0) dX12_run_114 rfl rfl ?_
  refine g_dup dX12_run_115 (rv_cat _) ?_
  obtain ⟨v2, ev2, hf⟩ := ob hf
  refine g_getI dX12_run_116 ev2 t_1992 hin16 hc16 (by decide) rfl ?_
  refine g_iconst (v := 1) dX12_run_119 (by decide) ?_
  refine g_iadd dX12_run_120 ?_
  obtain ⟨σ3, eσ3, hf⟩ := ob hf
  refine g_putI dX12_run_121 eσ3 (Or.inl t_1992) hin16 hc16 (by decide) hty16 hnm16 (Or.inl rfl) rfl rfl rfl ?_
  refine g_aload_n (j := 0) dX12_run_124 rfl rfl ?_
  refine g_aload_n (j := 0) dX12_run_125 rfl rfl ?_
  obtain ⟨v4, ev4, hf⟩ := ob hf
  refine g_getI dX12_run_126 ev4 t_1992 hin16 hc16 (by decide) rfl ?_
  refine g_iconst (v := 1) dX12_run_129 (by decide) ?_
  refine g_isub dX12_run_130 ?_
  obtain ⟨_, h7, hf⟩ := ob hf
  obtain ⟨σ5, v6, eσ5, hf⟩ := cb_el hf
  refine g_callV_i dX12_run_131 (wX12_isDone _ eσ5) (okX12_isDone _ (by decide) (by decide)) (ckK_el h7) hc16 t_2345 t_2347 s_X12_isDone rfl (Nat.le_trans (cat_le _) (Nat.le_of_ble_eq_true rfl)) rfl ?_
  refine g_istore_n (i := 3) (L' := [(3, .int v6), (0, rv x0), (1, .int x1), (2, .int x2)]) dX12_run_134 rfl (Nat.le_of_ble_eq_true rfl) rfl ?_
  refine g_iload_n (j := 0) dX12_run_135 rfl rfl ?_
  refine g_if_eq (tgt := 146) dX12_run_136 (by decide) (fun c8 => ?_) (fun c8 => ?_)
  · rw [if_pos c8] at hf
    refine g_sub (L' := [(0, rv x0), (1, .int x1), (2, .int x2), (3, .int v6)]) [1, 2, 3, 0] rfl ?_
    exact bX12_run_146 hX1 hX2 hf
  · rw [if_neg c8] at hf
    refine g_aload_n (j := 1) dX12_run_139 rfl rfl ?_
    obtain ⟨v9, ev9, hf⟩ := ob hf
    refine g_getI dX12_run_140 ev9 t_1999 hin16 hc16 (by decide) rfl ?_
    refine g_if_ne (tgt := 208) dX12_run_143 (by decide) (fun c10 => ?_) (fun c10 => ?_)
    · rw [if_neg c10] at hf
      refine g_sub (L' := [(0, rv x0), (3, .int v6)]) [1, 0] rfl ?_
      exact bX12_run_208 hX1 hX2 hf
    · rw [if_pos c10] at hf
      refine g_sub (L' := [(0, rv x0), (1, .int x1), (2, .int x2), (3, .int v6)]) [1, 2, 3, 0] rfl ?_
      exact bX12_run_146 hX1 hX2 hf

set_option maxRecDepth 100000 in
set_option maxHeartbeats 4000000 in
theorem bX12_run_55 {X : Xt} {σf : St} {r : Int32} (hX1 : X.2.2.1 = σf) (hX2 : X.2.2.2 = .inl (some (.int r))) {σ : St} {x0 : Nat} {x1 : Int32} {x2 : Int32} {x3 : Int32} (hf : fX12_run_55 σ x0 x1 x2 x3 = some (σf, r)) : G MtX12_run X σ 55 [(0, rv x0), (1, .int x1), (2, .int x2), (3, .int x3)] [] := by
  unfold fX12_run_55 at hf
  refine g_aload_n (j := 0) dX12_run_55 rfl rfl ?_
  refine g_iload_n (j := 3) dX12_run_56 rfl rfl ?_
  refine g_iconst (v := 1) dX12_run_57 (by decide) ?_
  obtain ⟨_, h3, hf⟩ := ob hf
  obtain ⟨σ1, v2, eσ1, hf⟩ := cb_el hf
  refine g_callV_i dX12_run_58 (wX12_fails _ eσ1) (okX12_fails _ (by decide) (by decide)) (ckK_el h3) hc16 t_2225 t_2227 s_X12_fails rfl (Nat.le_trans (cat_le _) (Nat.le_of_ble_eq_true rfl)) rfl ?_
  refine g_if_eq (tgt := 66) dX12_run_61 (by decide) (fun c4 => ?_) (fun c4 => ?_)
  · rw [if_pos c4] at hf
    refine g_aload_n (j := 0) dX12_run_66 rfl rfl ?_
    obtain ⟨v5, ev5, hf⟩ := ob hf
    refine g_getF dX12_run_67 ev5 t_1989 hin16 hc16 (by decide) rfl ?_
    refine g_aload_n (j := 0) dX12_run_70 rfl rfl ?_
    obtain ⟨v6, ev6, hf⟩ := ob hf
    refine g_getI dX12_run_71 ev6 t_1992 hin16 hc16 (by decide) rfl ?_
    refine g_iload_n (j := 1) dX12_run_74 rfl rfl ?_
    obtain ⟨σ7, eσ7, hf⟩ := ob hf
    refine g_iast dX12_run_75 eσ7 ?_
    refine g_aload_n (j := 0) dX12_run_76 rfl rfl ?_
    obtain ⟨v8, ev8, hf⟩ := ob hf
    refine g_getF dX12_run_77 ev8 t_1990 hin16 hc16 (by decide) rfl ?_
    refine g_aload_n (j := 0) dX12_run_80 rfl rfl ?_
    obtain ⟨v9, ev9, hf⟩ := ob hf
    refine g_getI dX12_run_81 ev9 t_1992 hin16 hc16 (by decide) rfl ?_
    refine g_aload_n (j := 0) dX12_run_84 rfl rfl ?_
    obtain ⟨v10, ev10, hf⟩ := ob hf
    refine g_getI dX12_run_85 ev10 t_1988 hin16 hc16 (by decide) rfl ?_
    obtain ⟨σ11, eσ11, hf⟩ := ob hf
    refine g_iast dX12_run_88 eσ11 ?_
    refine g_aload_n (j := 0) dX12_run_89 rfl rfl ?_
    obtain ⟨v12, ev12, hf⟩ := ob hf
    refine g_getF dX12_run_90 ev12 t_1991 hin16 hc16 (by decide) rfl ?_
    refine g_aload_n (j := 0) dX12_run_93 rfl rfl ?_
    obtain ⟨v13, ev13, hf⟩ := ob hf
    refine g_getI dX12_run_94 ev13 t_1992 hin16 hc16 (by decide) rfl ?_
    refine g_aload_n (j := 0) dX12_run_97 rfl rfl ?_
    obtain ⟨v14, ev14, hf⟩ := ob hf
    refine g_getI dX12_run_98 ev14 t_1999 hin16 hc16 (by decide) rfl ?_
    refine g_iconst (v := 2) dX12_run_101 (by decide) ?_
    refine g_icmp_ne (tgt := 112) dX12_run_102 (by decide) (fun c15 => ?_) (fun c15 => ?_)
    · rw [if_neg c15] at hf
      refine g_iconst (v := 0) dX12_run_112 (by decide) ?_
      refine g_sub (L' := [(0, rv x0), (1, .int x1), (2, .int x2)]) [0, 1, 2] rfl ?_
      exact bX12_run_113 hX1 hX2 hf
    · rw [if_pos c15] at hf
      refine g_aload_n (j := 0) dX12_run_105 rfl rfl ?_
      obtain ⟨v16, ev16, hf⟩ := ob hf
      refine g_getI dX12_run_106 ev16 t_2002 hin16 hc16 (by decide) rfl ?_
      refine g_goto (tgt := 113) dX12_run_109 (by decide) ?_
      refine g_sub (L' := [(0, rv x0), (1, .int x1), (2, .int x2)]) [0, 1, 2] rfl ?_
      exact bX12_run_113 hX1 hX2 hf
  · rw [if_neg c4] at hf
    refine g_iconst (v := 0) dX12_run_64 (by decide) ?_
    exact g_iret dX12_run_65 rfl rfl hX2 hX1 hf

set_option maxRecDepth 100000 in
set_option maxHeartbeats 4000000 in
theorem bX12_run_33 {X : Xt} {σf : St} {r : Int32} (hX1 : X.2.2.1 = σf) (hX2 : X.2.2.2 = .inl (some (.int r))) {σ : St} {x0 : Nat} {x1 : Int32} {x2 : Int32} {x3 : Int32} {y0 : Nat} {y1 : Int32} (hf : fX12_run_33 σ x0 x1 x2 x3 y0 y1 = some (σf, r)) : G MtX12_run X σ 33 [(0, rv x0), (1, .int x1), (2, .int x2), (3, .int x3)] [.int y1, rv y0] := by
  unfold fX12_run_33 at hf
  obtain ⟨σ1, eσ1, hf⟩ := ob hf
  refine g_putI dX12_run_33 eσ1 (Or.inl t_1976) hin16 hc16 (by decide) hty16 hnm16 (Or.inl rfl) rfl rfl rfl ?_
  refine g_aload_n (j := 0) dX12_run_36 rfl rfl ?_
  refine g_iconst (v := 0) dX12_run_37 (by decide) ?_
  obtain ⟨σ2, eσ2, hf⟩ := ob hf
  refine g_putI dX12_run_38 eσ2 (Or.inl t_1975) hin16 hc16 (by decide) hty16 hnm16 (Or.inl rfl) rfl rfl rfl ?_
  refine g_iload_n (j := 3) dX12_run_41 rfl rfl ?_
  refine g_if_ne (tgt := 55) dX12_run_42 (by decide) (fun c3 => ?_) (fun c3 => ?_)
  · rw [if_neg c3] at hf
    exact bX12_run_55 hX1 hX2 hf
  · rw [if_pos c3] at hf
    refine g_aload_n (j := 0) dX12_run_45 rfl rfl ?_
    refine g_iload_n (j := 1) dX12_run_46 rfl rfl ?_
    obtain ⟨σ4, eσ4, hf⟩ := ob hf
    refine g_putI dX12_run_47 eσ4 (Or.inl t_1988) hin16 hc16 (by decide) hty16 hnm16 (Or.inl rfl) rfl rfl rfl ?_
    refine g_aload_n (j := 0) dX12_run_50 rfl rfl ?_
    refine g_iload_n (j := 2) dX12_run_51 rfl rfl ?_
    obtain ⟨σ5, eσ5, hf⟩ := ob hf
    refine g_putI dX12_run_52 eσ5 (Or.inl t_1972) hin16 hc16 (by decide) hty16 hnm16 (Or.inl rfl) rfl rfl rfl ?_
    exact bX12_run_55 hX1 hX2 hf

set_option maxRecDepth 100000 in
set_option maxHeartbeats 4000000 in
theorem wX12_run (l : Launch) {σ σf : St} {x0 : Nat} {r : Int32} (hf : fX12_run σ x0 = some (σf, r)) : Con MtX12_run yX12_run l σ [rv x0] σf (some (.int r)) := by
  refine Con.of (by decide +kernel) rfl (fun h => absurd (show false = true from h) (by decide)) (by simp only [sl_n, sl_r, sl_i, sl_l]; exact Nat.le_of_ble_eq_true rfl) ?_
  rw [show lv_args 0 [rv x0] = [(0, rv x0)] by simp only [la_n, la_r, la_i, la_l] <;> rfl]
  have hX1 : ((l, σ, σf, .inl (some (.int r))) : Xt).2.2.1 = σf := rfl
  have hX2 : ((l, σ, σf, .inl (some (.int r))) : Xt).2.2.2 = .inl (some (.int r)) := rfl
  unfold fX12_run at hf
  refine g_aload_n (j := 0) dX12_run_0 rfl rfl ?_
  refine g_iconst (v := 0) dX12_run_1 (by decide) ?_
  obtain ⟨σ1, eσ1, hf⟩ := ob hf
  refine g_putI dX12_run_2 eσ1 (Or.inl t_1967) hin16 hc16 (by decide) hty16 hnm16 (Or.inl rfl) rfl rfl rfl ?_
  refine g_aload_n (j := 0) dX12_run_5 rfl rfl ?_
  obtain ⟨v2, ev2, hf⟩ := ob hf
  refine g_getI dX12_run_6 ev2 t_1988 hin16 hc16 (by decide) rfl ?_
  refine g_istore_n (i := 1) (L' := [(1, .int v2), (0, rv x0)]) dX12_run_9 rfl (Nat.le_of_ble_eq_true rfl) (by simp [rv_cat]) ?_
  refine g_aload_n (j := 1) dX12_run_10 rfl rfl ?_
  obtain ⟨v3, ev3, hf⟩ := ob hf
  refine g_getI dX12_run_11 ev3 t_1972 hin16 hc16 (by decide) rfl ?_
  refine g_istore_n (i := 2) (L' := [(2, .int v3), (1, .int v2), (0, rv x0)]) dX12_run_14 rfl (Nat.le_of_ble_eq_true rfl) rfl ?_
  refine g_aload_n (j := 2) dX12_run_15 rfl rfl ?_
  obtain ⟨_, h6, hf⟩ := ob hf
  obtain ⟨σ4, v5, eσ4, hf⟩ := cb_el hf
  refine g_callV_i dX12_run_16 (wX12_readsLine _ eσ4) (okX12_readsLine _ (by decide) (by decide)) (ckK_el h6) hc16 t_2241 t_2243 s_X12_readsLine rfl (Nat.le_trans (cat_le _) (Nat.le_of_ble_eq_true rfl)) rfl ?_
  refine g_istore_n (i := 3) (L' := [(3, .int v5), (2, .int v3), (1, .int v2), (0, rv x0)]) dX12_run_19 rfl (Nat.le_of_ble_eq_true rfl) rfl ?_
  refine g_aload_n (j := 3) dX12_run_20 rfl rfl ?_
  refine g_iload_n (j := 0) dX12_run_21 rfl rfl ?_
  refine g_if_eq (tgt := 29) dX12_run_22 (by decide) (fun c7 => ?_) (fun c7 => ?_)
  · rw [if_pos c7] at hf
    refine g_aload_n (j := 3) dX12_run_29 rfl rfl ?_
    obtain ⟨v8, ev8, hf⟩ := ob hf
    refine g_getI dX12_run_30 ev8 t_1978 hin16 hc16 (by decide) rfl ?_
    refine g_sub (L' := [(0, rv x0), (1, .int v2), (2, .int v3), (3, .int v5)]) [3, 2, 1, 0] rfl ?_
    exact bX12_run_33 hX1 hX2 hf
  · rw [if_neg c7] at hf
    refine g_iconst (v := (-1)) dX12_run_25 (by decide) ?_
    refine g_goto (tgt := 33) dX12_run_26 (by decide) ?_
    refine g_sub (L' := [(0, rv x0), (1, .int v2), (2, .int v3), (3, .int v5)]) [3, 2, 1, 0] rfl ?_
    exact bX12_run_33 hX1 hX2 hf

theorem okX12_run (M : Mt) (h1 : 12 + 1 ≤ M.2.2.2.2.1) (h2 : 8 + (5 + 11) + 343 ≤ M.2.2.2.2.2.1) : CallOk M MtX12_run yX12_run 0 := ⟨t_2240, h1, h2, ⟨by decide, by decide⟩, by decide +kernel, t_16⟩
abbrev MtX12_errorPosition : Mt := (cX12_errorPosition, 1, "ExactlySaidModel", (Option.some Jvm.ClassFile.FieldType.int), 1, 84, false)
set_option maxRecDepth 100000 in
set_option maxHeartbeats 4000000 in
theorem wX12_errorPosition (l : Launch) {σ σf : St} {x0 : Nat} {r : Int32} (hf : fX12_errorPosition σ x0 = some (σf, r)) : Con MtX12_errorPosition yX12_errorPosition l σ [rv x0] σf (some (.int r)) := by
  refine Con.of (by decide +kernel) rfl (fun h => absurd (show false = true from h) (by decide)) (by simp only [sl_n, sl_r, sl_i, sl_l]; exact Nat.le_of_ble_eq_true rfl) ?_
  rw [show lv_args 0 [rv x0] = [(0, rv x0)] by simp only [la_n, la_r, la_i, la_l] <;> rfl]
  have hX1 : ((l, σ, σf, .inl (some (.int r))) : Xt).2.2.1 = σf := rfl
  have hX2 : ((l, σ, σf, .inl (some (.int r))) : Xt).2.2.2 = .inl (some (.int r)) := rfl
  unfold fX12_errorPosition at hf
  refine g_aload_n (j := 0) dX12_errorPosition_0 rfl rfl ?_
  refine g_iconst (v := 0) dX12_errorPosition_1 (by decide) ?_
  obtain ⟨σ1, eσ1, hf⟩ := ob hf
  refine g_putI dX12_errorPosition_2 eσ1 (Or.inl t_1967) hin16 hc16 (by decide) hty16 hnm16 (Or.inl rfl) rfl rfl rfl ?_
  refine g_aload_n (j := 0) dX12_errorPosition_5 rfl rfl ?_
  obtain ⟨v2, ev2, hf⟩ := ob hf
  refine g_getI dX12_errorPosition_6 ev2 t_1976 hin16 hc16 (by decide) rfl ?_
  exact g_iret dX12_errorPosition_9 rfl rfl hX2 hX1 hf

theorem okX12_errorPosition (M : Mt) (h1 : 1 + 1 ≤ M.2.2.2.2.1) (h2 : 8 + (1 + 11) + 84 ≤ M.2.2.2.2.2.1) : CallOk M MtX12_errorPosition yX12_errorPosition 0 := ⟨t_2526, h1, h2, ⟨by decide, by decide⟩, by decide +kernel, t_16⟩
abbrev MtX12_refused : Mt := (cX12_refused, 2, "ExactlySaidModel", (Option.some Jvm.ClassFile.FieldType.int), 2, 106, false)
set_option maxRecDepth 100000 in
set_option maxHeartbeats 4000000 in
theorem wX12_refused (l : Launch) {σ σf : St} {x0 : Nat} {x1 : Int32} {r : Int32} (hf : fX12_refused σ x0 x1 = some (σf, r)) : Con MtX12_refused yX12_refused l σ [rv x0, .int x1] σf (some (.int r)) := by
  refine Con.of (by decide +kernel) rfl (fun h => absurd (show false = true from h) (by decide)) (by simp only [sl_n, sl_r, sl_i, sl_l]; exact Nat.le_of_ble_eq_true rfl) ?_
  rw [show lv_args 0 [rv x0, .int x1] = [(0, rv x0), (1, .int x1)] by simp only [la_n, la_r, la_i, la_l] <;> rfl]
  have hX1 : ((l, σ, σf, .inl (some (.int r))) : Xt).2.2.1 = σf := rfl
  have hX2 : ((l, σ, σf, .inl (some (.int r))) : Xt).2.2.2 = .inl (some (.int r)) := rfl
  unfold fX12_refused at hf
  refine g_aload_n (j := 0) dX12_refused_0 rfl rfl ?_
  refine g_iconst (v := 0) dX12_refused_1 (by decide) ?_
  obtain ⟨σ1, eσ1, hf⟩ := ob hf
  refine g_putI dX12_refused_2 eσ1 (Or.inl t_1967) hin16 hc16 (by decide) hty16 hnm16 (Or.inl rfl) rfl rfl rfl ?_
  refine g_aload_n (j := 0) dX12_refused_5 rfl rfl ?_
  refine g_iload_n (j := 1) dX12_refused_6 rfl rfl ?_
  refine g_iconst (v := 0) dX12_refused_7 (by decide) ?_
  refine g_iconst (v := 1) dX12_refused_8 (by decide) ?_
  obtain ⟨σ2, v3, eσ2, hf⟩ := cb_el hf
  refine g_callS_i dX12_refused_9 (wX12_in _ eσ2) (okX12_in _ (by decide) (by decide)) t_2257 t_2258 rfl (Nat.le_trans (cat_le _) (Nat.le_of_ble_eq_true rfl)) rfl ?_
  refine g_iconst (v := 1) dX12_refused_12 (by decide) ?_
  obtain ⟨_, h6, hf⟩ := ob hf
  obtain ⟨σ4, v5, eσ4, hf⟩ := cb_el hf
  refine g_callV_i dX12_refused_13 (wX12_fails _ eσ4) (okX12_fails _ (by decide) (by decide)) (ckK_el h6) hc16 t_2225 t_2227 s_X12_fails rfl (Nat.le_trans (cat_le _) (Nat.le_of_ble_eq_true rfl)) rfl ?_
  refine g_if_eq (tgt := 21) dX12_refused_16 (by decide) (fun c7 => ?_) (fun c7 => ?_)
  · rw [if_pos c7] at hf
    refine g_iload_n (j := 1) dX12_refused_21 rfl rfl ?_
    refine g_if_ne (tgt := 32) dX12_refused_22 (by decide) (fun c8 => ?_) (fun c8 => ?_)
    · rw [if_neg c8] at hf
      refine g_aload_n (j := 0) dX12_refused_32 rfl rfl ?_
      obtain ⟨v9, ev9, hf⟩ := ob hf
      refine g_getI dX12_refused_33 ev9 t_2011 hin16 hc16 (by decide) rfl ?_
      exact g_iret dX12_refused_36 rfl rfl hX2 hX1 hf
    · rw [if_pos c8] at hf
      refine g_aload_n (j := 0) dX12_refused_25 rfl rfl ?_
      obtain ⟨v10, ev10, hf⟩ := ob hf
      refine g_getI dX12_refused_26 ev10 t_2010 hin16 hc16 (by decide) rfl ?_
      refine g_goto (tgt := 36) dX12_refused_29 (by decide) ?_
      exact g_iret dX12_refused_36 rfl rfl hX2 hX1 hf
  · rw [if_neg c7] at hf
    refine g_iconst (v := 0) dX12_refused_19 (by decide) ?_
    exact g_iret dX12_refused_20 rfl rfl hX2 hX1 hf

theorem okX12_refused (M : Mt) (h1 : 2 + 1 ≤ M.2.2.2.2.1) (h2 : 8 + (2 + 11) + 106 ≤ M.2.2.2.2.2.1) : CallOk M MtX12_refused yX12_refused 1 := ⟨t_2530, h1, h2, ⟨by decide, by decide⟩, by decide +kernel, t_16⟩
abbrev MtX12_failed : Mt := (cX12_failed, 1, "ExactlySaidModel", (Option.some Jvm.ClassFile.FieldType.int), 1, 84, false)
set_option maxRecDepth 100000 in
set_option maxHeartbeats 4000000 in
theorem wX12_failed (l : Launch) {σ σf : St} {x0 : Nat} {r : Int32} (hf : fX12_failed σ x0 = some (σf, r)) : Con MtX12_failed yX12_failed l σ [rv x0] σf (some (.int r)) := by
  refine Con.of (by decide +kernel) rfl (fun h => absurd (show false = true from h) (by decide)) (by simp only [sl_n, sl_r, sl_i, sl_l]; exact Nat.le_of_ble_eq_true rfl) ?_
  rw [show lv_args 0 [rv x0] = [(0, rv x0)] by simp only [la_n, la_r, la_i, la_l] <;> rfl]
  have hX1 : ((l, σ, σf, .inl (some (.int r))) : Xt).2.2.1 = σf := rfl
  have hX2 : ((l, σ, σf, .inl (some (.int r))) : Xt).2.2.2 = .inl (some (.int r)) := rfl
  unfold fX12_failed at hf
  refine g_aload_n (j := 0) dX12_failed_0 rfl rfl ?_
  refine g_iconst (v := 0) dX12_failed_1 (by decide) ?_
  obtain ⟨σ1, eσ1, hf⟩ := ob hf
  refine g_putI dX12_failed_2 eσ1 (Or.inl t_1967) hin16 hc16 (by decide) hty16 hnm16 (Or.inl rfl) rfl rfl rfl ?_
  refine g_aload_n (j := 0) dX12_failed_5 rfl rfl ?_
  obtain ⟨v2, ev2, hf⟩ := ob hf
  refine g_getI dX12_failed_6 ev2 t_2012 hin16 hc16 (by decide) rfl ?_
  exact g_iret dX12_failed_9 rfl rfl hX2 hX1 hf

theorem okX12_failed (M : Mt) (h1 : 1 + 1 ≤ M.2.2.2.2.1) (h2 : 8 + (1 + 11) + 84 ≤ M.2.2.2.2.2.1) : CallOk M MtX12_failed yX12_failed 0 := ⟨t_2534, h1, h2, ⟨by decide, by decide⟩, by decide +kernel, t_16⟩
abbrev MtX12_ring : Mt := (cX12_ring, 1, "ExactlySaidModel", (Option.some Jvm.ClassFile.FieldType.int), 1, 84, false)
set_option maxRecDepth 100000 in
set_option maxHeartbeats 4000000 in
theorem wX12_ring (l : Launch) {σ σf : St} {x0 : Nat} {r : Int32} (hf : fX12_ring σ x0 = some (σf, r)) : Con MtX12_ring yX12_ring l σ [rv x0] σf (some (.int r)) := by
  refine Con.of (by decide +kernel) rfl (fun h => absurd (show false = true from h) (by decide)) (by simp only [sl_n, sl_r, sl_i, sl_l]; exact Nat.le_of_ble_eq_true rfl) ?_
  rw [show lv_args 0 [rv x0] = [(0, rv x0)] by simp only [la_n, la_r, la_i, la_l] <;> rfl]
  have hX1 : ((l, σ, σf, .inl (some (.int r))) : Xt).2.2.1 = σf := rfl
  have hX2 : ((l, σ, σf, .inl (some (.int r))) : Xt).2.2.2 = .inl (some (.int r)) := rfl
  unfold fX12_ring at hf
  refine g_aload_n (j := 0) dX12_ring_0 rfl rfl ?_
  refine g_iconst (v := 0) dX12_ring_1 (by decide) ?_
  obtain ⟨σ1, eσ1, hf⟩ := ob hf
  refine g_putI dX12_ring_2 eσ1 (Or.inl t_1967) hin16 hc16 (by decide) hty16 hnm16 (Or.inl rfl) rfl rfl rfl ?_
  refine g_aload_n (j := 0) dX12_ring_5 rfl rfl ?_
  obtain ⟨v2, ev2, hf⟩ := ob hf
  refine g_getI dX12_ring_6 ev2 t_2013 hin16 hc16 (by decide) rfl ?_
  exact g_iret dX12_ring_9 rfl rfl hX2 hX1 hf

theorem okX12_ring (M : Mt) (h1 : 1 + 1 ≤ M.2.2.2.2.1) (h2 : 8 + (1 + 11) + 84 ≤ M.2.2.2.2.2.1) : CallOk M MtX12_ring yX12_ring 0 := ⟨t_2538, h1, h2, ⟨by decide, by decide⟩, by decide +kernel, t_16⟩
abbrev MtX12_ringAt : Mt := (cX12_ringAt, 2, "ExactlySaidModel", (Option.some Jvm.ClassFile.FieldType.int), 2, 106, false)
set_option maxRecDepth 100000 in
set_option maxHeartbeats 4000000 in
theorem wX12_ringAt (l : Launch) {σ σf : St} {x0 : Nat} {x1 : Int32} {r : Int32} (hf : fX12_ringAt σ x0 x1 = some (σf, r)) : Con MtX12_ringAt yX12_ringAt l σ [rv x0, .int x1] σf (some (.int r)) := by
  refine Con.of (by decide +kernel) rfl (fun h => absurd (show false = true from h) (by decide)) (by simp only [sl_n, sl_r, sl_i, sl_l]; exact Nat.le_of_ble_eq_true rfl) ?_
  rw [show lv_args 0 [rv x0, .int x1] = [(0, rv x0), (1, .int x1)] by simp only [la_n, la_r, la_i, la_l] <;> rfl]
  have hX1 : ((l, σ, σf, .inl (some (.int r))) : Xt).2.2.1 = σf := rfl
  have hX2 : ((l, σ, σf, .inl (some (.int r))) : Xt).2.2.2 = .inl (some (.int r)) := rfl
  unfold fX12_ringAt at hf
  refine g_aload_n (j := 0) dX12_ringAt_0 rfl rfl ?_
  refine g_iconst (v := 0) dX12_ringAt_1 (by decide) ?_
  obtain ⟨σ1, eσ1, hf⟩ := ob hf
  refine g_putI dX12_ringAt_2 eσ1 (Or.inl t_1967) hin16 hc16 (by decide) hty16 hnm16 (Or.inl rfl) rfl rfl rfl ?_
  refine g_aload_n (j := 0) dX12_ringAt_5 rfl rfl ?_
  refine g_iload_n (j := 1) dX12_ringAt_6 rfl rfl ?_
  refine g_iconst (v := 0) dX12_ringAt_7 (by decide) ?_
  refine g_aload_n (j := 0) dX12_ringAt_8 rfl rfl ?_
  obtain ⟨v2, ev2, hf⟩ := ob hf
  refine g_getI dX12_ringAt_9 ev2 t_2013 hin16 hc16 (by decide) rfl ?_
  refine g_iconst (v := 1) dX12_ringAt_12 (by decide) ?_
  refine g_isub dX12_ringAt_13 ?_
  obtain ⟨σ3, v4, eσ3, hf⟩ := cb_el hf
  refine g_callS_i dX12_ringAt_14 (wX12_in _ eσ3) (okX12_in _ (by decide) (by decide)) t_2257 t_2258 rfl (Nat.le_trans (cat_le _) (Nat.le_of_ble_eq_true rfl)) rfl ?_
  refine g_iconst (v := 1) dX12_ringAt_17 (by decide) ?_
  obtain ⟨_, h7, hf⟩ := ob hf
  obtain ⟨σ5, v6, eσ5, hf⟩ := cb_el hf
  refine g_callV_i dX12_ringAt_18 (wX12_fails _ eσ5) (okX12_fails _ (by decide) (by decide)) (ckK_el h7) hc16 t_2225 t_2227 s_X12_fails rfl (Nat.le_trans (cat_le _) (Nat.le_of_ble_eq_true rfl)) rfl ?_
  refine g_if_eq (tgt := 28) dX12_ringAt_21 (by decide) (fun c8 => ?_) (fun c8 => ?_)
  · rw [if_pos c8] at hf
    refine g_aload_n (j := 0) dX12_ringAt_28 rfl rfl ?_
    obtain ⟨v9, ev9, hf⟩ := ob hf
    refine g_getF dX12_ringAt_29 ev9 t_2033 hin16 hc16 (by decide) rfl ?_
    refine g_iload_n (j := 1) dX12_ringAt_32 rfl rfl ?_
    obtain ⟨v10, ev10, hf⟩ := ob hf
    refine g_iald dX12_ringAt_33 ev10 ?_
    exact g_iret dX12_ringAt_34 rfl rfl hX2 hX1 hf
  · rw [if_neg c8] at hf
    refine g_iconst (v := 0) dX12_ringAt_24 (by decide) ?_
    refine g_goto (tgt := 34) dX12_ringAt_25 (by decide) ?_
    exact g_iret dX12_ringAt_34 rfl rfl hX2 hX1 hf

theorem okX12_ringAt (M : Mt) (h1 : 2 + 1 ≤ M.2.2.2.2.1) (h2 : 8 + (2 + 11) + 106 ≤ M.2.2.2.2.2.1) : CallOk M MtX12_ringAt yX12_ringAt 1 := ⟨t_2542, h1, h2, ⟨by decide, by decide⟩, by decide +kernel, t_16⟩
abbrev MtX12_sign : Mt := (cX12_sign, 1, "ExactlySaidModel", (Option.some Jvm.ClassFile.FieldType.int), 1, 84, false)
set_option maxRecDepth 100000 in
set_option maxHeartbeats 4000000 in
theorem wX12_sign (l : Launch) {σ σf : St} {x0 : Nat} {r : Int32} (hf : fX12_sign σ x0 = some (σf, r)) : Con MtX12_sign yX12_sign l σ [rv x0] σf (some (.int r)) := by
  refine Con.of (by decide +kernel) rfl (fun h => absurd (show false = true from h) (by decide)) (by simp only [sl_n, sl_r, sl_i, sl_l]; exact Nat.le_of_ble_eq_true rfl) ?_
  rw [show lv_args 0 [rv x0] = [(0, rv x0)] by simp only [la_n, la_r, la_i, la_l] <;> rfl]
  have hX1 : ((l, σ, σf, .inl (some (.int r))) : Xt).2.2.1 = σf := rfl
  have hX2 : ((l, σ, σf, .inl (some (.int r))) : Xt).2.2.2 = .inl (some (.int r)) := rfl
  unfold fX12_sign at hf
  refine g_aload_n (j := 0) dX12_sign_0 rfl rfl ?_
  refine g_iconst (v := 0) dX12_sign_1 (by decide) ?_
  obtain ⟨σ1, eσ1, hf⟩ := ob hf
  refine g_putI dX12_sign_2 eσ1 (Or.inl t_1967) hin16 hc16 (by decide) hty16 hnm16 (Or.inl rfl) rfl rfl rfl ?_
  refine g_aload_n (j := 0) dX12_sign_5 rfl rfl ?_
  obtain ⟨v2, ev2, hf⟩ := ob hf
  refine g_getF dX12_sign_6 ev2 t_1970 hin16 hc16 (by decide) rfl ?_
  refine g_aload_n (j := 0) dX12_sign_9 rfl rfl ?_
  obtain ⟨v3, ev3, hf⟩ := ob hf
  refine g_getI dX12_sign_10 ev3 t_2024 hin16 hc16 (by decide) rfl ?_
  obtain ⟨v4, ev4, hf⟩ := ob hf
  refine g_iald dX12_sign_13 ev4 ?_
  exact g_iret dX12_sign_14 rfl rfl hX2 hX1 hf

theorem okX12_sign (M : Mt) (h1 : 1 + 1 ≤ M.2.2.2.2.1) (h2 : 8 + (1 + 11) + 84 ≤ M.2.2.2.2.2.1) : CallOk M MtX12_sign yX12_sign 0 := ⟨t_2554, h1, h2, ⟨by decide, by decide⟩, by decide +kernel, t_16⟩
abbrev MtX12_writes : Mt := (cX12_writes, 2, "ExactlySaidModel", none, 1, 84, false)
set_option maxRecDepth 100000 in
set_option maxHeartbeats 4000000 in
theorem wX12_writes (l : Launch) {σ σf : St} {x0 : Nat} {x1 : Int32} {r : Unit} (hf : fX12_writes σ x0 x1 = some (σf, r)) : Con MtX12_writes yX12_writes l σ [rv x0, .int x1] σf (none) := by
  refine Con.of (by decide +kernel) rfl (fun h => absurd (show false = true from h) (by decide)) (by simp only [sl_n, sl_r, sl_i, sl_l]; exact Nat.le_of_ble_eq_true rfl) ?_
  rw [show lv_args 0 [rv x0, .int x1] = [(0, rv x0), (1, .int x1)] by simp only [la_n, la_r, la_i, la_l] <;> rfl]
  have hX1 : ((l, σ, σf, .inl (none)) : Xt).2.2.1 = σf := rfl
  have hX2 : ((l, σ, σf, .inl (none)) : Xt).2.2.2 = .inl (none) := rfl
  unfold fX12_writes at hf
  refine g_aload_n (j := 0) dX12_writes_0 rfl rfl ?_
  obtain ⟨v1, ev1, hf⟩ := ob hf
  refine g_getF dX12_writes_1 ev1 t_2042 hin16 hc16 (by decide) rfl ?_
  refine g_aload_n (j := 0) dX12_writes_4 rfl rfl ?_
  obtain ⟨v2, ev2, hf⟩ := ob hf
  refine g_getI dX12_writes_5 ev2 t_2044 hin16 hc16 (by decide) rfl ?_
  refine g_iload_n (j := 1) dX12_writes_8 rfl rfl ?_
  obtain ⟨σ3, eσ3, hf⟩ := ob hf
  refine g_iast dX12_writes_9 eσ3 ?_
  refine g_aload_n (j := 0) dX12_writes_10 rfl rfl ?_
  refine g_dup dX12_writes_11 (rv_cat _) ?_
  obtain ⟨v4, ev4, hf⟩ := ob hf
  refine g_getI dX12_writes_12 ev4 t_2044 hin16 hc16 (by decide) rfl ?_
  refine g_iconst (v := 1) dX12_writes_15 (by decide) ?_
  refine g_iadd dX12_writes_16 ?_
  obtain ⟨σ5, eσ5, hf⟩ := ob hf
  refine g_putI dX12_writes_17 eσ5 (Or.inl t_2044) hin16 hc16 (by decide) hty16 hnm16 (Or.inl rfl) rfl rfl rfl ?_
  exact g_vret dX12_writes_20 rfl hX2 hX1 hf

theorem okX12_writes (M : Mt) (h1 : 1 + 1 ≤ M.2.2.2.2.1) (h2 : 8 + (2 + 11) + 84 ≤ M.2.2.2.2.2.1) : CallOk M MtX12_writes yX12_writes 1 := ⟨t_2570, h1, h2, ⟨by decide, by decide⟩, by decide +kernel, t_16⟩
abbrev MtX12_writesNumber : Mt := (cX12_writesNumber, 6, "ExactlySaidModel", none, 2, 105, false)
set_option maxRecDepth 100000 in
set_option maxHeartbeats 4000000 in
theorem bX12_writesNumber_71 {X : Xt} {σf : St} {r : Unit} (hX1 : X.2.2.1 = σf) (hX2 : X.2.2.2 = .inl (none)) {k11 : St → Nat → Int32 → Int32 → Int32 → Option (St × Unit)} {k20 : St → Nat → Int32 → Int32 → Int32 → Int32 → Option (St × Unit)} (hk11 : ∀ (σ : St) (x0 : Nat) (x1 : Int32) (x2 : Int32) (x3 : Int32), k11 σ x0 x1 x2 x3 = some (σf, r) → G MtX12_writesNumber X σ 11 [(0, rv x0), (1, .int x1), (2, .int x2), (3, .int x3)] []) (hk20 : ∀ (σ : St) (x0 : Nat) (x1 : Int32) (x2 : Int32) (x3 : Int32) (x4 : Int32), k20 σ x0 x1 x2 x3 x4 = some (σf, r) → G MtX12_writesNumber X σ 20 [(0, rv x0), (1, .int x1), (2, .int x2), (3, .int x3), (4, .int x4)] []) {σ : St} {x0 : Nat} {x1 : Int32} {x2 : Int32} {x3 : Int32} {x4 : Int32} (hf : fX12_writesNumber_71 k11 k20 σ x0 x1 x2 x3 x4 = some (σf, r)) : G MtX12_writesNumber X σ 71 [(0, rv x0), (1, .int x1), (2, .int x2), (3, .int x3), (4, .int x4)] [] := by
  unfold fX12_writesNumber_71 at hf
  refine g_iload (j := 4) dX12_writesNumber_71 rfl ?_
  refine g_bipush (v := 10) dX12_writesNumber_73 (by decide) ?_
  refine g_idiv dX12_writesNumber_75 (by decide) ?_
  obtain ⟨v1, ev1, hf⟩ := nm_el hf
  refine g_topI ev1 ?_
  refine g_istore (i := 4) (L' := [(4, .int v1), (0, rv x0), (1, .int x1), (2, .int x2), (3, .int x3)]) dX12_writesNumber_76 (Nat.le_of_ble_eq_true rfl) rfl ?_
  refine g_goto (tgt := 20) dX12_writesNumber_78 (by decide) ?_
  refine g_sub (L' := [(0, rv x0), (1, .int x1), (2, .int x2), (3, .int x3), (4, .int v1)]) [1, 2, 3, 4, 0] rfl ?_
  exact hk20 _ _ _ _ _ _ hf

set_option maxRecDepth 100000 in
set_option maxHeartbeats 4000000 in
theorem bX12_writesNumber_56 {X : Xt} {σf : St} {r : Unit} (hX1 : X.2.2.1 = σf) (hX2 : X.2.2.2 = .inl (none)) {k11 : St → Nat → Int32 → Int32 → Int32 → Option (St × Unit)} {k20 : St → Nat → Int32 → Int32 → Int32 → Int32 → Option (St × Unit)} (hk11 : ∀ (σ : St) (x0 : Nat) (x1 : Int32) (x2 : Int32) (x3 : Int32), k11 σ x0 x1 x2 x3 = some (σf, r) → G MtX12_writesNumber X σ 11 [(0, rv x0), (1, .int x1), (2, .int x2), (3, .int x3)] []) (hk20 : ∀ (σ : St) (x0 : Nat) (x1 : Int32) (x2 : Int32) (x3 : Int32) (x4 : Int32), k20 σ x0 x1 x2 x3 x4 = some (σf, r) → G MtX12_writesNumber X σ 20 [(0, rv x0), (1, .int x1), (2, .int x2), (3, .int x3), (4, .int x4)] []) {σ : St} {x0 : Nat} {x1 : Int32} {x3 : Int32} {x4 : Int32} {x5 : Int32} {y0 : Int32} {y1 : Int32} (hf : fX12_writesNumber_56 k11 k20 σ x0 x1 x3 x4 x5 y0 y1 = some (σf, r)) : G MtX12_writesNumber X σ 56 [(0, rv x0), (1, .int x1), (3, .int x3), (4, .int x4), (5, .int x5)] [.int y1, .int y0] := by
  unfold fX12_writesNumber_56 at hf
  refine g_ior dX12_writesNumber_56 ?_
  obtain ⟨v1, ev1, hf⟩ := nm_el hf
  refine g_topI ev1 ?_
  refine g_istore_n (i := 2) (L' := [(2, .int v1), (0, rv x0), (1, .int x1), (3, .int x3), (4, .int x4), (5, .int x5)]) dX12_writesNumber_57 rfl (Nat.le_of_ble_eq_true rfl) rfl ?_
  refine g_iload_n (j := 0) dX12_writesNumber_58 rfl rfl ?_
  refine g_if_eq (tgt := 71) dX12_writesNumber_59 (by decide) (fun c2 => ?_) (fun c2 => ?_)
  · rw [if_pos c2] at hf
    refine g_sub (L' := [(0, rv x0), (1, .int x1), (2, .int v1), (3, .int x3), (4, .int x4)]) [1, 2, 0, 3, 4] rfl ?_
    exact bX12_writesNumber_71 hX1 hX2 hk11 hk20 hf
  · rw [if_neg c2] at hf
    refine g_aload_n (j := 1) dX12_writesNumber_62 rfl rfl ?_
    refine g_bipush (v := 48) dX12_writesNumber_63 (by decide) ?_
    refine g_iload (j := 5) dX12_writesNumber_65 rfl ?_
    refine g_iadd dX12_writesNumber_67 ?_
    obtain ⟨_, h5, hf⟩ := ob hf
    obtain ⟨σ3, v4, eσ3, hf⟩ := cb_el hf
    refine g_callV_v dX12_writesNumber_68 (wX12_writes _ eσ3) (okX12_writes _ (by decide) (by decide)) (ckK_el h5) hc16 t_2567 t_2569 s_X12_writes rfl (Nat.le_trans (cat_le _) (Nat.le_of_ble_eq_true rfl)) rfl ?_
    refine g_sub (L' := [(0, rv x0), (1, .int x1), (2, .int v1), (3, .int x3), (4, .int x4)]) [1, 2, 0, 3, 4] rfl ?_
    exact bX12_writesNumber_71 hX1 hX2 hk11 hk20 hf

set_option maxRecDepth 100000 in
set_option maxHeartbeats 4000000 in
theorem bX12_writesNumber_20 {X : Xt} {σf : St} {r : Unit} (hX1 : X.2.2.1 = σf) (hX2 : X.2.2.2 = .inl (none)) {k11 : St → Nat → Int32 → Int32 → Int32 → Option (St × Unit)} (hk11 : ∀ (σ : St) (x0 : Nat) (x1 : Int32) (x2 : Int32) (x3 : Int32), k11 σ x0 x1 x2 x3 = some (σf, r) → G MtX12_writesNumber X σ 11 [(0, rv x0), (1, .int x1), (2, .int x2), (3, .int x3)] []) : ∀ (n : Nat) (σ : St) (x0 : Nat) (x1 : Int32) (x2 : Int32) (x3 : Int32) (x4 : Int32), fX12_writesNumber_20 k11 n σ x0 x1 x2 x3 x4 = some (σf, r) → G MtX12_writesNumber X σ 20 [(0, rv x0), (1, .int x1), (2, .int x2), (3, .int x3), (4, .int x4)] [] := by
  intro n
  induction n with
  | zero => intro σ x0 x1 x2 x3 x4 hf; cases hf
  | succ n ih =>
    intro σ x0 x1 x2 x3 x4 hf
    rw [fX12_writesNumber_20] at hf
    refine g_iload (j := 4) dX12_writesNumber_20 rfl ?_
    refine g_if_le (tgt := 81) dX12_writesNumber_22 (by decide) (fun c1 => ?_) (fun c1 => ?_)
    · rw [if_pos c1] at hf
      obtain ⟨v2, ev2, hf⟩ := nm_el hf
      refine g_iinc (L' := [(3, .int v2), (0, rv x0), (1, .int x1), (2, .int x2), (4, .int x4)]) (j := 3) (v := v2) dX12_writesNumber_81 rfl (by rw [ev2]; rfl) (Nat.le_of_ble_eq_true rfl) rfl ?_
      refine g_goto (tgt := 11) dX12_writesNumber_84 (by decide) ?_
      refine g_sub (L' := [(0, rv x0), (1, .int x1), (2, .int x2), (3, .int v2)]) [1, 2, 3, 0] rfl ?_
      exact hk11 _ _ _ _ _ hf
    · rw [if_neg c1] at hf
      refine g_aload_n (j := 0) dX12_writesNumber_25 rfl rfl ?_
      obtain ⟨v3, ev3, hf⟩ := ob hf
      refine g_getF dX12_writesNumber_26 ev3 t_1968 hin16 hc16 (by decide) rfl ?_
      refine g_sipush (v := 1000) dX12_writesNumber_29 (by decide) ?_
      refine g_iload_n (j := 1) dX12_writesNumber_32 rfl rfl ?_
      refine g_imul dX12_writesNumber_33 ?_
      refine g_iload_n (j := 3) dX12_writesNumber_34 rfl rfl ?_
      refine g_iadd dX12_writesNumber_35 ?_
      obtain ⟨v4, ev4, hf⟩ := ob hf
      refine g_iald dX12_writesNumber_36 ev4 ?_
      refine g_iload (j := 4) dX12_writesNumber_37 rfl ?_
      obtain ⟨_, h5, hf⟩ := ob hf
      refine g_idiv dX12_writesNumber_39 (ckD_el h5) ?_
      refine g_bipush (v := 10) dX12_writesNumber_40 (by decide) ?_
      refine g_irem dX12_writesNumber_42 (by decide) ?_
      obtain ⟨v6, ev6, hf⟩ := nm_el hf
      refine g_topI ev6 ?_
      refine g_istore (i := 5) (L' := [(5, .int v6), (0, rv x0), (1, .int x1), (2, .int x2), (3, .int x3), (4, .int x4)]) dX12_writesNumber_43 (Nat.le_of_ble_eq_true rfl) rfl ?_
      refine g_iload_n (j := 3) dX12_writesNumber_45 rfl rfl ?_
      refine g_iload (j := 0) dX12_writesNumber_46 rfl ?_
      refine g_if_le (tgt := 55) dX12_writesNumber_48 (by decide) (fun c7 => ?_) (fun c7 => ?_)
      · rw [if_pos c7] at hf
        refine g_iconst (v := 0) dX12_writesNumber_55 (by decide) ?_
        refine g_sub (L' := [(0, rv x0), (1, .int x1), (3, .int x3), (4, .int x4), (5, .int v6)]) [1, 2, 4, 5, 0] rfl ?_
        exact bX12_writesNumber_56 hX1 hX2 hk11 (fun σ x0 x1 x2 x3 x4 hf => ih σ x0 x1 x2 x3 x4 hf) hf
      · rw [if_neg c7] at hf
        refine g_iconst (v := 1) dX12_writesNumber_51 (by decide) ?_
        refine g_goto (tgt := 56) dX12_writesNumber_52 (by decide) ?_
        refine g_sub (L' := [(0, rv x0), (1, .int x1), (3, .int x3), (4, .int x4), (5, .int v6)]) [1, 2, 4, 5, 0] rfl ?_
        exact bX12_writesNumber_56 hX1 hX2 hk11 (fun σ x0 x1 x2 x3 x4 hf => ih σ x0 x1 x2 x3 x4 hf) hf

set_option maxRecDepth 100000 in
set_option maxHeartbeats 4000000 in
theorem bX12_writesNumber_11 {X : Xt} {σf : St} {r : Unit} (hX1 : X.2.2.1 = σf) (hX2 : X.2.2.2 = .inl (none)) : ∀ (n : Nat) (σ : St) (x0 : Nat) (x1 : Int32) (x2 : Int32) (x3 : Int32), fX12_writesNumber_11 n σ x0 x1 x2 x3 = some (σf, r) → G MtX12_writesNumber X σ 11 [(0, rv x0), (1, .int x1), (2, .int x2), (3, .int x3)] [] := by
  intro n
  induction n with
  | zero => intro σ x0 x1 x2 x3 hf; cases hf
  | succ n ih =>
    intro σ x0 x1 x2 x3 hf
    rw [fX12_writesNumber_11] at hf
    refine g_iload_n (j := 3) dX12_writesNumber_11 rfl rfl ?_
    refine g_if_lt (tgt := 87) dX12_writesNumber_12 (by decide) (fun c1 => ?_) (fun c1 => ?_)
    · rw [if_pos c1] at hf
      refine g_iload_n (j := 2) dX12_writesNumber_87 rfl rfl ?_
      refine g_if_ne (tgt := 97) dX12_writesNumber_88 (by decide) (fun c2 => ?_) (fun c2 => ?_)
      · rw [if_neg c2] at hf
        exact g_vret dX12_writesNumber_97 rfl hX2 hX1 hf
      · rw [if_pos c2] at hf
        refine g_aload_n (j := 0) dX12_writesNumber_91 rfl rfl ?_
        refine g_bipush (v := 48) dX12_writesNumber_92 (by decide) ?_
        obtain ⟨_, h5, hf⟩ := ob hf
        obtain ⟨σ3, v4, eσ3, hf⟩ := cb_el hf
        refine g_callV_v dX12_writesNumber_94 (wX12_writes _ eσ3) (okX12_writes _ (by decide) (by decide)) (ckK_el h5) hc16 t_2567 t_2569 s_X12_writes rfl (Nat.le_trans (cat_le _) (Nat.le_of_ble_eq_true rfl)) rfl ?_
        exact g_vret dX12_writesNumber_97 rfl hX2 hX1 hf
    · rw [if_neg c1] at hf
      refine g_sipush (v := 1000) dX12_writesNumber_15 (by decide) ?_
      refine g_istore (i := 4) (L' := [(4, .int 1000), (0, rv x0), (1, .int x1), (2, .int x2), (3, .int x3)]) dX12_writesNumber_18 (Nat.le_of_ble_eq_true rfl) rfl ?_
      refine g_sub (L' := [(0, rv x0), (1, .int x1), (2, .int x2), (3, .int x3), (4, .int 1000)]) [1, 2, 3, 4, 0] rfl ?_
      exact bX12_writesNumber_20 hX1 hX2 (fun σ x0 x1 x2 x3 hf => ih σ x0 x1 x2 x3 hf) FU _ _ _ _ _ _ hf

set_option maxRecDepth 100000 in
set_option maxHeartbeats 4000000 in
theorem wX12_writesNumber (l : Launch) {σ σf : St} {x0 : Nat} {x1 : Int32} {r : Unit} (hf : fX12_writesNumber σ x0 x1 = some (σf, r)) : Con MtX12_writesNumber yX12_writesNumber l σ [rv x0, .int x1] σf (none) := by
  refine Con.of (by decide +kernel) rfl (fun h => absurd (show false = true from h) (by decide)) (by simp only [sl_n, sl_r, sl_i, sl_l]; exact Nat.le_of_ble_eq_true rfl) ?_
  rw [show lv_args 0 [rv x0, .int x1] = [(0, rv x0), (1, .int x1)] by simp only [la_n, la_r, la_i, la_l] <;> rfl]
  have hX1 : ((l, σ, σf, .inl (none)) : Xt).2.2.1 = σf := rfl
  have hX2 : ((l, σ, σf, .inl (none)) : Xt).2.2.2 = .inl (none) := rfl
  unfold fX12_writesNumber at hf
  refine g_iconst (v := 0) dX12_writesNumber_0 (by decide) ?_
  refine g_istore_n (i := 2) (L' := [(2, .int 0), (0, rv x0), (1, .int x1)]) dX12_writesNumber_1 rfl (Nat.le_of_ble_eq_true rfl) rfl ?_
  refine g_aload_n (j := 1) dX12_writesNumber_2 rfl rfl ?_
  obtain ⟨v1, ev1, hf⟩ := ob hf
  refine g_getF dX12_writesNumber_3 ev1 t_1969 hin16 hc16 (by decide) rfl ?_
  refine g_iload_n (j := 2) dX12_writesNumber_6 rfl rfl ?_
  obtain ⟨v2, ev2, hf⟩ := ob hf
  refine g_iald dX12_writesNumber_7 ev2 ?_
  refine g_iconst (v := 1) dX12_writesNumber_8 (by decide) ?_
  refine g_isub dX12_writesNumber_9 ?_
  obtain ⟨v3, ev3, hf⟩ := nm_el hf
  refine g_topI ev3 ?_
  refine g_istore_n (i := 3) (L' := [(3, .int v3), (2, .int 0), (0, rv x0), (1, .int x1)]) dX12_writesNumber_10 rfl (Nat.le_of_ble_eq_true rfl) rfl ?_
  refine g_sub (L' := [(0, rv x0), (1, .int x1), (2, .int 0), (3, .int v3)]) [2, 3, 1, 0] rfl ?_
  exact bX12_writesNumber_11 hX1 hX2 FU _ _ _ _ _ hf

theorem okX12_writesNumber (M : Mt) (h1 : 2 + 1 ≤ M.2.2.2.2.1) (h2 : 8 + (6 + 11) + 105 ≤ M.2.2.2.2.2.1) : CallOk M MtX12_writesNumber yX12_writesNumber 1 := ⟨t_2566, h1, h2, ⟨by decide, by decide⟩, by decide +kernel, t_16⟩
abbrev MtX12_drafts : Mt := (cX12_drafts, 2, "ExactlySaidModel", none, 3, 130, false)
set_option maxRecDepth 100000 in
set_option maxHeartbeats 4000000 in
theorem wX12_drafts (l : Launch) {σ σf : St} {x0 : Nat} {x1 : Int32} {r : Unit} (hf : fX12_drafts σ x0 x1 = some (σf, r)) : Con MtX12_drafts yX12_drafts l σ [rv x0, .int x1] σf (none) := by
  refine Con.of (by decide +kernel) rfl (fun h => absurd (show false = true from h) (by decide)) (by simp only [sl_n, sl_r, sl_i, sl_l]; exact Nat.le_of_ble_eq_true rfl) ?_
  rw [show lv_args 0 [rv x0, .int x1] = [(0, rv x0), (1, .int x1)] by simp only [la_n, la_r, la_i, la_l] <;> rfl]
  have hX1 : ((l, σ, σf, .inl (none)) : Xt).2.2.1 = σf := rfl
  have hX2 : ((l, σ, σf, .inl (none)) : Xt).2.2.2 = .inl (none) := rfl
  unfold fX12_drafts at hf
  refine g_aload_n (j := 0) dX12_drafts_0 rfl rfl ?_
  refine g_iconst (v := 0) dX12_drafts_1 (by decide) ?_
  obtain ⟨σ1, eσ1, hf⟩ := ob hf
  refine g_putI dX12_drafts_2 eσ1 (Or.inl t_2044) hin16 hc16 (by decide) hty16 hnm16 (Or.inl rfl) rfl rfl rfl ?_
  refine g_aload_n (j := 0) dX12_drafts_5 rfl rfl ?_
  refine g_iconst (v := 0) dX12_drafts_6 (by decide) ?_
  refine g_aload_n (j := 0) dX12_drafts_7 rfl rfl ?_
  obtain ⟨v2, ev2, hf⟩ := ob hf
  refine g_getI dX12_drafts_8 ev2 t_2024 hin16 hc16 (by decide) rfl ?_
  refine g_iload_n (j := 1) dX12_drafts_11 rfl rfl ?_
  obtain ⟨_, h5, hf⟩ := ob hf
  obtain ⟨σ3, v4, eσ3, hf⟩ := cb_el hf
  refine g_callV_v dX12_drafts_12 (wX12_loads _ eσ3) (okX12_loads _ (by decide) (by decide)) (ckK_el h5) hc16 t_2439 t_2441 s_X12_loads rfl (Nat.le_trans (cat_le _) (Nat.le_of_ble_eq_true rfl)) rfl ?_
  refine g_aload_n (j := 0) dX12_drafts_15 rfl rfl ?_
  refine g_iconst (v := 0) dX12_drafts_16 (by decide) ?_
  obtain ⟨_, h8, hf⟩ := ob hf
  obtain ⟨σ6, v7, eσ6, hf⟩ := cb_el hf
  refine g_callV_v dX12_drafts_17 (wX12_writesNumber _ eσ6) (okX12_writesNumber _ (by decide) (by decide)) (ckK_el h8) hc16 t_2563 t_2565 s_X12_writesNumber rfl (Nat.le_trans (cat_le _) (Nat.le_of_ble_eq_true rfl)) rfl ?_
  exact g_vret dX12_drafts_20 rfl hX2 hX1 hf

theorem okX12_drafts (M : Mt) (h1 : 3 + 1 ≤ M.2.2.2.2.1) (h2 : 8 + (2 + 11) + 130 ≤ M.2.2.2.2.2.1) : CallOk M MtX12_drafts yX12_drafts 1 := ⟨t_2562, h1, h2, ⟨by decide, by decide⟩, by decide +kernel, t_16⟩
abbrev MtX12_digits : Mt := (cX12_digits, 2, "ExactlySaidModel", (Option.some Jvm.ClassFile.FieldType.int), 4, 151, false)
set_option maxRecDepth 100000 in
set_option maxHeartbeats 4000000 in
theorem wX12_digits (l : Launch) {σ σf : St} {x0 : Nat} {x1 : Int32} {r : Int32} (hf : fX12_digits σ x0 x1 = some (σf, r)) : Con MtX12_digits yX12_digits l σ [rv x0, .int x1] σf (some (.int r)) := by
  refine Con.of (by decide +kernel) rfl (fun h => absurd (show false = true from h) (by decide)) (by simp only [sl_n, sl_r, sl_i, sl_l]; exact Nat.le_of_ble_eq_true rfl) ?_
  rw [show lv_args 0 [rv x0, .int x1] = [(0, rv x0), (1, .int x1)] by simp only [la_n, la_r, la_i, la_l] <;> rfl]
  have hX1 : ((l, σ, σf, .inl (some (.int r))) : Xt).2.2.1 = σf := rfl
  have hX2 : ((l, σ, σf, .inl (some (.int r))) : Xt).2.2.2 = .inl (some (.int r)) := rfl
  unfold fX12_digits at hf
  refine g_aload_n (j := 0) dX12_digits_0 rfl rfl ?_
  refine g_iconst (v := 0) dX12_digits_1 (by decide) ?_
  obtain ⟨σ1, eσ1, hf⟩ := ob hf
  refine g_putI dX12_digits_2 eσ1 (Or.inl t_1967) hin16 hc16 (by decide) hty16 hnm16 (Or.inl rfl) rfl rfl rfl ?_
  refine g_aload_n (j := 0) dX12_digits_5 rfl rfl ?_
  refine g_iload_n (j := 1) dX12_digits_6 rfl rfl ?_
  obtain ⟨_, h4, hf⟩ := ob hf
  obtain ⟨σ2, v3, eσ2, hf⟩ := cb_el hf
  refine g_callV_v dX12_digits_7 (wX12_drafts _ eσ2) (okX12_drafts _ (by decide) (by decide)) (ckK_el h4) hc16 t_2559 t_2561 s_X12_drafts rfl (Nat.le_trans (cat_le _) (Nat.le_of_ble_eq_true rfl)) rfl ?_
  refine g_aload_n (j := 0) dX12_digits_10 rfl rfl ?_
  obtain ⟨v5, ev5, hf⟩ := ob hf
  refine g_getI dX12_digits_11 ev5 t_2044 hin16 hc16 (by decide) rfl ?_
  exact g_iret dX12_digits_14 rfl rfl hX2 hX1 hf

theorem okX12_digits (M : Mt) (h1 : 4 + 1 ≤ M.2.2.2.2.1) (h2 : 8 + (2 + 11) + 151 ≤ M.2.2.2.2.2.1) : CallOk M MtX12_digits yX12_digits 1 := ⟨t_2558, h1, h2, ⟨by decide, by decide⟩, by decide +kernel, t_16⟩
abbrev MtX12_digit : Mt := (cX12_digit, 3, "ExactlySaidModel", (Option.some Jvm.ClassFile.FieldType.int), 4, 151, false)
set_option maxRecDepth 100000 in
set_option maxHeartbeats 4000000 in
theorem wX12_digit (l : Launch) {σ σf : St} {x0 : Nat} {x1 : Int32} {x2 : Int32} {r : Int32} (hf : fX12_digit σ x0 x1 x2 = some (σf, r)) : Con MtX12_digit yX12_digit l σ [rv x0, .int x1, .int x2] σf (some (.int r)) := by
  refine Con.of (by decide +kernel) rfl (fun h => absurd (show false = true from h) (by decide)) (by simp only [sl_n, sl_r, sl_i, sl_l]; exact Nat.le_of_ble_eq_true rfl) ?_
  rw [show lv_args 0 [rv x0, .int x1, .int x2] = [(0, rv x0), (1, .int x1), (2, .int x2)] by simp only [la_n, la_r, la_i, la_l] <;> rfl]
  have hX1 : ((l, σ, σf, .inl (some (.int r))) : Xt).2.2.1 = σf := rfl
  have hX2 : ((l, σ, σf, .inl (some (.int r))) : Xt).2.2.2 = .inl (some (.int r)) := rfl
  unfold fX12_digit at hf
  refine g_aload_n (j := 0) dX12_digit_0 rfl rfl ?_
  refine g_iconst (v := 0) dX12_digit_1 (by decide) ?_
  obtain ⟨σ1, eσ1, hf⟩ := ob hf
  refine g_putI dX12_digit_2 eσ1 (Or.inl t_1967) hin16 hc16 (by decide) hty16 hnm16 (Or.inl rfl) rfl rfl rfl ?_
  refine g_aload_n (j := 0) dX12_digit_5 rfl rfl ?_
  refine g_iload_n (j := 1) dX12_digit_6 rfl rfl ?_
  obtain ⟨_, h4, hf⟩ := ob hf
  obtain ⟨σ2, v3, eσ2, hf⟩ := cb_el hf
  refine g_callV_v dX12_digit_7 (wX12_drafts _ eσ2) (okX12_drafts _ (by decide) (by decide)) (ckK_el h4) hc16 t_2559 t_2561 s_X12_drafts rfl (Nat.le_trans (cat_le _) (Nat.le_of_ble_eq_true rfl)) rfl ?_
  refine g_aload_n (j := 0) dX12_digit_10 rfl rfl ?_
  refine g_iload_n (j := 2) dX12_digit_11 rfl rfl ?_
  refine g_iconst (v := 0) dX12_digit_12 (by decide) ?_
  refine g_aload_n (j := 0) dX12_digit_13 rfl rfl ?_
  obtain ⟨v5, ev5, hf⟩ := ob hf
  refine g_getI dX12_digit_14 ev5 t_2044 hin16 hc16 (by decide) rfl ?_
  refine g_iconst (v := 1) dX12_digit_17 (by decide) ?_
  refine g_isub dX12_digit_18 ?_
  obtain ⟨σ6, v7, eσ6, hf⟩ := cb_el hf
  refine g_callS_i dX12_digit_19 (wX12_in _ eσ6) (okX12_in _ (by decide) (by decide)) t_2257 t_2258 rfl (Nat.le_trans (cat_le _) (Nat.le_of_ble_eq_true rfl)) rfl ?_
  refine g_iconst (v := 1) dX12_digit_22 (by decide) ?_
  obtain ⟨_, h10, hf⟩ := ob hf
  obtain ⟨σ8, v9, eσ8, hf⟩ := cb_el hf
  refine g_callV_i dX12_digit_23 (wX12_fails _ eσ8) (okX12_fails _ (by decide) (by decide)) (ckK_el h10) hc16 t_2225 t_2227 s_X12_fails rfl (Nat.le_trans (cat_le _) (Nat.le_of_ble_eq_true rfl)) rfl ?_
  refine g_if_eq (tgt := 33) dX12_digit_26 (by decide) (fun c11 => ?_) (fun c11 => ?_)
  · rw [if_pos c11] at hf
    refine g_aload_n (j := 0) dX12_digit_33 rfl rfl ?_
    obtain ⟨v12, ev12, hf⟩ := ob hf
    refine g_getF dX12_digit_34 ev12 t_2042 hin16 hc16 (by decide) rfl ?_
    refine g_iload_n (j := 2) dX12_digit_37 rfl rfl ?_
    obtain ⟨v13, ev13, hf⟩ := ob hf
    refine g_iald dX12_digit_38 ev13 ?_
    refine g_bipush (v := 48) dX12_digit_39 (by decide) ?_
    refine g_isub dX12_digit_41 ?_
    exact g_iret dX12_digit_42 rfl rfl hX2 hX1 hf
  · rw [if_neg c11] at hf
    refine g_iconst (v := 0) dX12_digit_29 (by decide) ?_
    refine g_goto (tgt := 42) dX12_digit_30 (by decide) ?_
    exact g_iret dX12_digit_42 rfl rfl hX2 hX1 hf

theorem okX12_digit (M : Mt) (h1 : 4 + 1 ≤ M.2.2.2.2.1) (h2 : 8 + (3 + 11) + 151 ≤ M.2.2.2.2.2.1) : CallOk M MtX12_digit yX12_digit 2 := ⟨t_2574, h1, h2, ⟨by decide, by decide⟩, by decide +kernel, t_16⟩
abbrev MtX12_aheadLength : Mt := (cX12_aheadLength, 4, "ExactlySaidModel", (Option.some Jvm.ClassFile.FieldType.int), 3, 130, false)
set_option maxRecDepth 100000 in
set_option maxHeartbeats 4000000 in
theorem bX12_aheadLength_41 {X : Xt} {σf : St} {r : Int32} (hX1 : X.2.2.1 = σf) (hX2 : X.2.2.2 = .inl (some (.int r))) : ∀ (n : Nat) (σ : St) (x0 : Nat) (x1 : Int32) (x2 : Int32), fX12_aheadLength_41 n σ x0 x1 x2 = some (σf, r) → G MtX12_aheadLength X σ 41 [(0, rv x0), (1, .int x1), (2, .int x2)] [] := by
  intro n
  induction n with
  | zero => intro σ x0 x1 x2 hf; cases hf
  | succ n ih =>
    intro σ x0 x1 x2 hf
    rw [fX12_aheadLength_41] at hf
    refine g_aload_n (j := 0) dX12_aheadLength_41 rfl rfl ?_
    refine g_bipush (v := 14) dX12_aheadLength_42 (by decide) ?_
    refine g_iconst (v := 0) dX12_aheadLength_44 (by decide) ?_
    obtain ⟨_, h3, hf⟩ := ob hf
    obtain ⟨σ1, v2, eσ1, hf⟩ := cb_el hf
    refine g_callV_i dX12_aheadLength_45 (wX12_limb _ eσ1) (okX12_limb _ (by decide) (by decide)) (ckK_el h3) hc16 t_1963 t_1965 s_X12_limb rfl (Nat.le_trans (cat_le _) (Nat.le_of_ble_eq_true rfl)) rfl ?_
    refine g_iconst (v := 5) dX12_aheadLength_48 (by decide) ?_
    refine g_irem dX12_aheadLength_49 (by decide) ?_
    refine g_if_ne (tgt := 67) dX12_aheadLength_50 (by decide) (fun c4 => ?_) (fun c4 => ?_)
    · rw [if_neg c4] at hf
      refine g_iload_n (j := 1) dX12_aheadLength_67 rfl rfl ?_
      refine g_iload_n (j := 2) dX12_aheadLength_68 rfl rfl ?_
      refine g_icmp_le (tgt := 76) dX12_aheadLength_69 (by decide) (fun c5 => ?_) (fun c5 => ?_)
      · rw [if_pos c5] at hf
        refine g_iload_n (j := 2) dX12_aheadLength_76 rfl rfl ?_
        exact g_iret dX12_aheadLength_77 rfl rfl hX2 hX1 hf
      · rw [if_neg c5] at hf
        refine g_iload_n (j := 1) dX12_aheadLength_72 rfl rfl ?_
        refine g_goto (tgt := 77) dX12_aheadLength_73 (by decide) ?_
        exact g_iret dX12_aheadLength_77 rfl rfl hX2 hX1 hf
    · rw [if_pos c4] at hf
      refine g_aload_n (j := 0) dX12_aheadLength_53 rfl rfl ?_
      refine g_bipush (v := 14) dX12_aheadLength_54 (by decide) ?_
      refine g_iconst (v := 5) dX12_aheadLength_56 (by decide) ?_
      obtain ⟨_, h8, hf⟩ := ob hf
      obtain ⟨σ6, v7, eσ6, hf⟩ := cb_el hf
      refine g_callV_i dX12_aheadLength_57 (wX12_shortens _ eσ6) (okX12_shortens _ (by decide) (by decide)) (ckK_el h8) hc16 t_1939 t_1941 s_X12_shortens rfl (Nat.le_trans (cat_le _) (Nat.le_of_ble_eq_true rfl)) rfl ?_
      refine g_istore_n (i := 3) (L' := [(3, .int v7), (0, rv x0), (1, .int x1), (2, .int x2)]) dX12_aheadLength_60 rfl (Nat.le_of_ble_eq_true rfl) rfl ?_
      obtain ⟨v9, ev9, hf⟩ := nm_el hf
      refine g_iinc (L' := [(2, .int v9), (3, .int v7), (0, rv x0), (1, .int x1)]) (j := 3) (v := v9) dX12_aheadLength_61 rfl (by rw [ev9]; rfl) (Nat.le_of_ble_eq_true rfl) rfl ?_
      refine g_goto (tgt := 41) dX12_aheadLength_64 (by decide) ?_
      refine g_sub (L' := [(0, rv x0), (1, .int x1), (2, .int v9)]) [2, 3, 0] rfl ?_
      exact ih _ _ _ _ hf

set_option maxRecDepth 100000 in
set_option maxHeartbeats 4000000 in
theorem bX12_aheadLength_15 {X : Xt} {σf : St} {r : Int32} (hX1 : X.2.2.1 = σf) (hX2 : X.2.2.2 = .inl (some (.int r))) : ∀ (n : Nat) (σ : St) (x0 : Nat) (x1 : Int32) (x2 : Int32), fX12_aheadLength_15 n σ x0 x1 x2 = some (σf, r) → G MtX12_aheadLength X σ 15 [(0, rv x0), (1, .int x1), (2, .int x2)] [] := by
  intro n
  induction n with
  | zero => intro σ x0 x1 x2 hf; cases hf
  | succ n ih =>
    intro σ x0 x1 x2 hf
    rw [fX12_aheadLength_15] at hf
    refine g_aload_n (j := 0) dX12_aheadLength_15 rfl rfl ?_
    refine g_bipush (v := 14) dX12_aheadLength_16 (by decide) ?_
    refine g_iconst (v := 0) dX12_aheadLength_18 (by decide) ?_
    obtain ⟨_, h3, hf⟩ := ob hf
    obtain ⟨σ1, v2, eσ1, hf⟩ := cb_el hf
    refine g_callV_i dX12_aheadLength_19 (wX12_limb _ eσ1) (okX12_limb _ (by decide) (by decide)) (ckK_el h3) hc16 t_1963 t_1965 s_X12_limb rfl (Nat.le_trans (cat_le _) (Nat.le_of_ble_eq_true rfl)) rfl ?_
    refine g_iconst (v := 2) dX12_aheadLength_22 (by decide) ?_
    refine g_irem dX12_aheadLength_23 (by decide) ?_
    refine g_if_ne (tgt := 41) dX12_aheadLength_24 (by decide) (fun c4 => ?_) (fun c4 => ?_)
    · rw [if_neg c4] at hf
      exact bX12_aheadLength_41 hX1 hX2 FU _ _ _ _ hf
    · rw [if_pos c4] at hf
      refine g_aload_n (j := 0) dX12_aheadLength_27 rfl rfl ?_
      refine g_bipush (v := 14) dX12_aheadLength_28 (by decide) ?_
      refine g_iconst (v := 2) dX12_aheadLength_30 (by decide) ?_
      obtain ⟨_, h7, hf⟩ := ob hf
      obtain ⟨σ5, v6, eσ5, hf⟩ := cb_el hf
      refine g_callV_i dX12_aheadLength_31 (wX12_shortens _ eσ5) (okX12_shortens _ (by decide) (by decide)) (ckK_el h7) hc16 t_1939 t_1941 s_X12_shortens rfl (Nat.le_trans (cat_le _) (Nat.le_of_ble_eq_true rfl)) rfl ?_
      refine g_istore_n (i := 3) (L' := [(3, .int v6), (0, rv x0), (1, .int x1), (2, .int x2)]) dX12_aheadLength_34 rfl (Nat.le_of_ble_eq_true rfl) rfl ?_
      obtain ⟨v8, ev8, hf⟩ := nm_el hf
      refine g_iinc (L' := [(1, .int v8), (3, .int v6), (0, rv x0), (2, .int x2)]) (j := 2) (v := v8) dX12_aheadLength_35 rfl (by rw [ev8]; rfl) (Nat.le_of_ble_eq_true rfl) (by simp [rv_cat]) ?_
      refine g_goto (tgt := 15) dX12_aheadLength_38 (by decide) ?_
      refine g_sub (L' := [(0, rv x0), (1, .int v8), (2, .int x2)]) [2, 0, 3] rfl ?_
      exact ih _ _ _ _ hf

set_option maxRecDepth 100000 in
set_option maxHeartbeats 4000000 in
theorem wX12_aheadLength (l : Launch) {σ σf : St} {x0 : Nat} {r : Int32} (hf : fX12_aheadLength σ x0 = some (σf, r)) : Con MtX12_aheadLength yX12_aheadLength l σ [rv x0] σf (some (.int r)) := by
  refine Con.of (by decide +kernel) rfl (fun h => absurd (show false = true from h) (by decide)) (by simp only [sl_n, sl_r, sl_i, sl_l]; exact Nat.le_of_ble_eq_true rfl) ?_
  rw [show lv_args 0 [rv x0] = [(0, rv x0)] by simp only [la_n, la_r, la_i, la_l] <;> rfl]
  have hX1 : ((l, σ, σf, .inl (some (.int r))) : Xt).2.2.1 = σf := rfl
  have hX2 : ((l, σ, σf, .inl (some (.int r))) : Xt).2.2.2 = .inl (some (.int r)) := rfl
  unfold fX12_aheadLength at hf
  refine g_aload_n (j := 0) dX12_aheadLength_0 rfl rfl ?_
  refine g_bipush (v := 14) dX12_aheadLength_1 (by decide) ?_
  refine g_aload_n (j := 0) dX12_aheadLength_3 rfl rfl ?_
  obtain ⟨v1, ev1, hf⟩ := ob hf
  refine g_getI dX12_aheadLength_4 ev1 t_2024 hin16 hc16 (by decide) rfl ?_
  refine g_iconst (v := 1) dX12_aheadLength_7 (by decide) ?_
  obtain ⟨_, h4, hf⟩ := ob hf
  obtain ⟨σ2, v3, eσ2, hf⟩ := cb_el hf
  refine g_callV_v dX12_aheadLength_8 (wX12_loads _ eσ2) (okX12_loads _ (by decide) (by decide)) (ckK_el h4) hc16 t_2439 t_2441 s_X12_loads rfl (Nat.le_trans (cat_le _) (Nat.le_of_ble_eq_true rfl)) rfl ?_
  refine g_iconst (v := 0) dX12_aheadLength_11 (by decide) ?_
  refine g_istore_n (i := 1) (L' := [(1, .int 0), (0, rv x0)]) dX12_aheadLength_12 rfl (Nat.le_of_ble_eq_true rfl) (by simp [rv_cat]) ?_
  refine g_iconst (v := 0) dX12_aheadLength_13 (by decide) ?_
  refine g_istore_n (i := 2) (L' := [(2, .int 0), (1, .int 0), (0, rv x0)]) dX12_aheadLength_14 rfl (Nat.le_of_ble_eq_true rfl) rfl ?_
  refine g_sub (L' := [(0, rv x0), (1, .int 0), (2, .int 0)]) [2, 1, 0] rfl ?_
  exact bX12_aheadLength_15 hX1 hX2 FU _ _ _ _ hf

theorem okX12_aheadLength (M : Mt) (h1 : 3 + 1 ≤ M.2.2.2.2.1) (h2 : 8 + (4 + 11) + 130 ≤ M.2.2.2.2.2.1) : CallOk M MtX12_aheadLength yX12_aheadLength 0 := ⟨t_2582, h1, h2, ⟨by decide, by decide⟩, by decide +kernel, t_16⟩
abbrev MtX12_isOne : Mt := (cX12_isOne, 2, "ExactlySaidModel", (Option.some Jvm.ClassFile.FieldType.boolean), 1, 84, false)
set_option maxRecDepth 100000 in
set_option maxHeartbeats 4000000 in
theorem wX12_isOne (l : Launch) {σ σf : St} {x0 : Nat} {x1 : Int32} {r : Int32} (hf : fX12_isOne σ x0 x1 = some (σf, r)) : Con MtX12_isOne yX12_isOne l σ [rv x0, .int x1] σf (some (.int r)) := by
  refine Con.of (by decide +kernel) rfl (fun h => absurd (show false = true from h) (by decide)) (by simp only [sl_n, sl_r, sl_i, sl_l]; exact Nat.le_of_ble_eq_true rfl) ?_
  rw [show lv_args 0 [rv x0, .int x1] = [(0, rv x0), (1, .int x1)] by simp only [la_n, la_r, la_i, la_l] <;> rfl]
  have hX1 : ((l, σ, σf, .inl (some (.int r))) : Xt).2.2.1 = σf := rfl
  have hX2 : ((l, σ, σf, .inl (some (.int r))) : Xt).2.2.2 = .inl (some (.int r)) := rfl
  unfold fX12_isOne at hf
  refine g_aload_n (j := 0) dX12_isOne_0 rfl rfl ?_
  obtain ⟨v1, ev1, hf⟩ := ob hf
  refine g_getF dX12_isOne_1 ev1 t_1969 hin16 hc16 (by decide) rfl ?_
  refine g_iload_n (j := 1) dX12_isOne_4 rfl rfl ?_
  obtain ⟨v2, ev2, hf⟩ := ob hf
  refine g_iald dX12_isOne_5 ev2 ?_
  refine g_iconst (v := 1) dX12_isOne_6 (by decide) ?_
  refine g_icmp_ne (tgt := 28) dX12_isOne_7 (by decide) (fun c3 => ?_) (fun c3 => ?_)
  · rw [if_neg c3] at hf
    refine g_iconst (v := 0) dX12_isOne_28 (by decide) ?_
    exact g_iret dX12_isOne_29 rfl (by decide) hX2 hX1 hf
  · rw [if_pos c3] at hf
    refine g_aload_n (j := 0) dX12_isOne_10 rfl rfl ?_
    obtain ⟨v4, ev4, hf⟩ := ob hf
    refine g_getF dX12_isOne_11 ev4 t_1968 hin16 hc16 (by decide) rfl ?_
    refine g_sipush (v := 1000) dX12_isOne_14 (by decide) ?_
    refine g_iload_n (j := 1) dX12_isOne_17 rfl rfl ?_
    refine g_imul dX12_isOne_18 ?_
    obtain ⟨v5, ev5, hf⟩ := ob hf
    refine g_iald dX12_isOne_19 ev5 ?_
    refine g_iconst (v := 1) dX12_isOne_20 (by decide) ?_
    refine g_icmp_ne (tgt := 28) dX12_isOne_21 (by decide) (fun c6 => ?_) (fun c6 => ?_)
    · rw [if_neg c6] at hf
      refine g_iconst (v := 0) dX12_isOne_28 (by decide) ?_
      exact g_iret dX12_isOne_29 rfl (by decide) hX2 hX1 hf
    · rw [if_pos c6] at hf
      refine g_iconst (v := 1) dX12_isOne_24 (by decide) ?_
      refine g_goto (tgt := 29) dX12_isOne_25 (by decide) ?_
      exact g_iret dX12_isOne_29 rfl (by decide) hX2 hX1 hf

theorem okX12_isOne (M : Mt) (h1 : 1 + 1 ≤ M.2.2.2.2.1) (h2 : 8 + (2 + 11) + 84 ≤ M.2.2.2.2.2.1) : CallOk M MtX12_isOne yX12_isOne 1 := ⟨t_2590, h1, h2, ⟨by decide, by decide⟩, by decide +kernel, t_16⟩
abbrev MtX12_repeats : Mt := (cX12_repeats, 3, "ExactlySaidModel", (Option.some Jvm.ClassFile.FieldType.int), 4, 168, false)
set_option maxRecDepth 100000 in
set_option maxHeartbeats 4000000 in
theorem bX12_repeats_25 {X : Xt} {σf : St} {r : Int32} (hX1 : X.2.2.1 = σf) (hX2 : X.2.2.2 = .inl (some (.int r))) : ∀ (n : Nat) (σ : St) (x0 : Nat) (x2 : Int32), fX12_repeats_25 n σ x0 x2 = some (σf, r) → G MtX12_repeats X σ 25 [(0, rv x0), (2, .int x2)] [] := by
  intro n
  induction n with
  | zero => intro σ x0 x2 hf; cases hf
  | succ n ih =>
    intro σ x0 x2 hf
    rw [fX12_repeats_25] at hf
    refine g_iload_n (j := 1) dX12_repeats_25 rfl rfl ?_
    refine g_sipush (v := 1000) dX12_repeats_26 (by decide) ?_
    refine g_icmp_gt (tgt := 73) dX12_repeats_29 (by decide) (fun c1 => ?_) (fun c1 => ?_)
    · rw [if_pos c1] at hf
      refine g_iconst (v := (-1)) dX12_repeats_73 (by decide) ?_
      exact g_iret dX12_repeats_74 rfl rfl hX2 hX1 hf
    · rw [if_neg c1] at hf
      refine g_aload_n (j := 0) dX12_repeats_32 rfl rfl ?_
      refine g_bipush (v := 13) dX12_repeats_33 (by decide) ?_
      refine g_bipush (v := 10) dX12_repeats_35 (by decide) ?_
      obtain ⟨_, h4, hf⟩ := ob hf
      obtain ⟨σ2, v3, eσ2, hf⟩ := cb_el hf
      refine g_callV_v dX12_repeats_37 (wX12_times _ eσ2) (okX12_times _ (by decide) (by decide)) (ckK_el h4) hc16 t_1947 t_1949 s_X12_times rfl (Nat.le_trans (cat_le _) (Nat.le_of_ble_eq_true rfl)) rfl ?_
      refine g_aload_n (j := 0) dX12_repeats_40 rfl rfl ?_
      refine g_bipush (v := 13) dX12_repeats_41 (by decide) ?_
      refine g_bipush (v := 14) dX12_repeats_43 (by decide) ?_
      obtain ⟨_, h7, hf⟩ := ob hf
      obtain ⟨σ5, v6, eσ5, hf⟩ := cb_el hf
      refine g_callV_v dX12_repeats_45 (wX12_divides _ eσ5) (okX12_divides _ (by decide) (by decide)) (ckK_el h7) hc16 t_1931 t_1933 s_X12_divides rfl (Nat.le_trans (cat_le _) (Nat.le_of_ble_eq_true rfl)) rfl ?_
      refine g_aload_n (j := 0) dX12_repeats_48 rfl rfl ?_
      refine g_bipush (v := 13) dX12_repeats_49 (by decide) ?_
      refine g_bipush (v := 10) dX12_repeats_51 (by decide) ?_
      obtain ⟨_, h10, hf⟩ := ob hf
      obtain ⟨σ8, v9, eσ8, hf⟩ := cb_el hf
      refine g_callV_v dX12_repeats_53 (wX12_copies _ eσ8) (okX12_copies _ (by decide) (by decide)) (ckK_el h10) hc16 t_1927 t_1929 s_X12_copies rfl (Nat.le_trans (cat_le _) (Nat.le_of_ble_eq_true rfl)) rfl ?_
      refine g_aload_n (j := 0) dX12_repeats_56 rfl rfl ?_
      refine g_bipush (v := 13) dX12_repeats_57 (by decide) ?_
      obtain ⟨_, h13, hf⟩ := ob hf
      obtain ⟨σ11, v12, eσ11, hf⟩ := cb_el hf
      refine g_callV_i dX12_repeats_59 (wX12_isOne _ eσ11) (okX12_isOne _ (by decide) (by decide)) (ckK_el h13) hc16 t_2587 t_2589 s_X12_isOne rfl (Nat.le_trans (cat_le _) (Nat.le_of_ble_eq_true rfl)) rfl ?_
      refine g_if_eq (tgt := 67) dX12_repeats_62 (by decide) (fun c14 => ?_) (fun c14 => ?_)
      · rw [if_pos c14] at hf
        obtain ⟨v15, ev15, hf⟩ := nm_el hf
        refine g_iinc (L' := [(2, .int v15), (0, rv x0)]) (j := 1) (v := v15) dX12_repeats_67 rfl (by rw [ev15]; rfl) (Nat.le_of_ble_eq_true rfl) rfl ?_
        refine g_goto (tgt := 25) dX12_repeats_70 (by decide) ?_
        refine g_sub (L' := [(0, rv x0), (2, .int v15)]) [1, 0] rfl ?_
        exact ih _ _ _ hf
      · rw [if_neg c14] at hf
        refine g_iload_n (j := 1) dX12_repeats_65 rfl rfl ?_
        exact g_iret dX12_repeats_66 rfl rfl hX2 hX1 hf

set_option maxRecDepth 100000 in
set_option maxHeartbeats 4000000 in
theorem wX12_repeats (l : Launch) {σ σf : St} {x0 : Nat} {r : Int32} (hf : fX12_repeats σ x0 = some (σf, r)) : Con MtX12_repeats yX12_repeats l σ [rv x0] σf (some (.int r)) := by
  refine Con.of (by decide +kernel) rfl (fun h => absurd (show false = true from h) (by decide)) (by simp only [sl_n, sl_r, sl_i, sl_l]; exact Nat.le_of_ble_eq_true rfl) ?_
  rw [show lv_args 0 [rv x0] = [(0, rv x0)] by simp only [la_n, la_r, la_i, la_l] <;> rfl]
  have hX1 : ((l, σ, σf, .inl (some (.int r))) : Xt).2.2.1 = σf := rfl
  have hX2 : ((l, σ, σf, .inl (some (.int r))) : Xt).2.2.2 = .inl (some (.int r)) := rfl
  unfold fX12_repeats at hf
  refine g_aload_n (j := 0) dX12_repeats_0 rfl rfl ?_
  obtain ⟨_, h3, hf⟩ := ob hf
  obtain ⟨σ1, v2, eσ1, hf⟩ := cb_el hf
  refine g_callV_i dX12_repeats_1 (wX12_aheadLength _ eσ1) (okX12_aheadLength _ (by decide) (by decide)) (ckK_el h3) hc16 t_2579 t_2581 s_X12_aheadLength rfl (Nat.le_trans (cat_le _) (Nat.le_of_ble_eq_true rfl)) rfl ?_
  refine g_istore_n (i := 1) (L' := [(1, .int v2), (0, rv x0)]) dX12_repeats_4 rfl (Nat.le_of_ble_eq_true rfl) (by simp [rv_cat]) ?_
  refine g_aload_n (j := 1) dX12_repeats_5 rfl rfl ?_
  refine g_bipush (v := 14) dX12_repeats_6 (by decide) ?_
  obtain ⟨_, h6, hf⟩ := ob hf
  obtain ⟨σ4, v5, eσ4, hf⟩ := cb_el hf
  refine g_callV_i dX12_repeats_8 (wX12_isOne _ eσ4) (okX12_isOne _ (by decide) (by decide)) (ckK_el h6) hc16 t_2587 t_2589 s_X12_isOne rfl (Nat.le_trans (cat_le _) (Nat.le_of_ble_eq_true rfl)) rfl ?_
  refine g_if_eq (tgt := 16) dX12_repeats_11 (by decide) (fun c7 => ?_) (fun c7 => ?_)
  · rw [if_pos c7] at hf
    refine g_aload_n (j := 1) dX12_repeats_16 rfl rfl ?_
    refine g_bipush (v := 13) dX12_repeats_17 (by decide) ?_
    refine g_iconst (v := 1) dX12_repeats_19 (by decide) ?_
    obtain ⟨_, h10, hf⟩ := ob hf
    obtain ⟨σ8, v9, eσ8, hf⟩ := cb_el hf
    refine g_callV_v dX12_repeats_20 (wX12_puts _ eσ8) (okX12_puts _ (by decide) (by decide)) (ckK_el h10) hc16 t_1911 t_1913 s_X12_puts rfl (Nat.le_trans (cat_le _) (Nat.le_of_ble_eq_true rfl)) rfl ?_
    refine g_iconst (v := 1) dX12_repeats_23 (by decide) ?_
    refine g_istore_n (i := 2) (L' := [(2, .int 1), (1, .int v2), (0, rv x0)]) dX12_repeats_24 rfl (Nat.le_of_ble_eq_true rfl) rfl ?_
    refine g_sub (L' := [(0, rv x0), (2, .int 1)]) [2, 0] rfl ?_
    exact bX12_repeats_25 hX1 hX2 FU _ _ _ hf
  · rw [if_neg c7] at hf
    refine g_iconst (v := 0) dX12_repeats_14 (by decide) ?_
    exact g_iret dX12_repeats_15 rfl rfl hX2 hX1 hf

theorem okX12_repeats (M : Mt) (h1 : 4 + 1 ≤ M.2.2.2.2.1) (h2 : 8 + (3 + 11) + 168 ≤ M.2.2.2.2.2.1) : CallOk M MtX12_repeats yX12_repeats 0 := ⟨t_2586, h1, h2, ⟨by decide, by decide⟩, by decide +kernel, t_16⟩
