abbrev MtX11_takeContinued : Mt := (cX11_takeContinued, 2, "ExactlySaid", (Option.some Jvm.ClassFile.FieldType.int), 8, 246, false)
set_option maxRecDepth 100000 in
set_option maxHeartbeats 4000000 in
theorem bX11_takeContinued_20 {X : Xt} {σf : St} {r : (String ⊕ Int32)} (hX1 : X.2.2.1 = σf) (hX2 : X.2.2.2 = xo (ocI r)) {σ : St} (hf : fX11_takeContinued_20 σ  = some (σf, r)) : G MtX11_takeContinued X σ 20 [] [] := by
  unfold fX11_takeContinued_20 at hf
  cases hf
  exact g_throw (cls := "java/lang/IndexOutOfBoundsException") (names := ["java/lang/RuntimeException", "java/lang/Exception"]) dX11_takeContinued_20 dX11_takeContinued_23 dX11_takeContinued_24 dX11_takeContinued_27 (by decide +kernel) (by decide +kernel) thw_147 thg_147 (by decide) (by decide) hX2 hX1 rfl

set_option maxRecDepth 100000 in
set_option maxHeartbeats 4000000 in
theorem wX11_takeContinued (l : Launch) (hst : l.stackTraces = false) {σ σf : St} {x0 : Nat} {x1 : Int32} {r : (String ⊕ Int32)} (hf : fX11_takeContinued σ x0 x1 = some (σf, r)) : ConT MtX11_takeContinued yX11_takeContinued l σ [rv x0, .int x1] σf (ocI r) := by
  refine ConT.of hst (by decide +kernel) rfl (fun h => absurd (show false = true from h) (by decide)) (by simp only [sl_n, sl_r, sl_i, sl_l]; exact Nat.le_of_ble_eq_true rfl) ?_
  rw [show lv_args 0 [rv x0, .int x1] = [(0, rv x0), (1, .int x1)] by simp only [la_n, la_r, la_i, la_l] <;> rfl]
  have hX1 : ((l, σ, σf, xo (ocI r)) : Xt).2.2.1 = σf := rfl
  have hX2 : ((l, σ, σf, xo (ocI r)) : Xt).2.2.2 = xo (ocI r) := rfl
  generalize ((l, σ, σf, xo (ocI r)) : Xt) = X at hX1 hX2 ⊢
  unfold fX11_takeContinued at hf
  refine g_iload_n (j := 1) dX11_takeContinued_0 rfl rfl ?_
  refine g_if_lt (tgt := 20) dX11_takeContinued_1 (by decide) (fun c1 => ?_) (fun c1 => ?_)
  · rw [if_pos c1] at hf
    refine g_sub (L' := []) [] rfl ?_
    exact bX11_takeContinued_20 hX1 hX2 hf
  · rw [if_neg c1] at hf
    refine g_iload_n (j := 1) dX11_takeContinued_4 rfl rfl ?_
    refine g_aload_n (j := 0) dX11_takeContinued_5 rfl rfl ?_
    obtain ⟨v2, ev2, hf⟩ := ob hf
    refine g_getF dX11_takeContinued_6 ev2 t_391 hin15 hc15 (by decide) rfl ?_
    refine g_aload_n (j := 0) dX11_takeContinued_9 rfl rfl ?_
    obtain ⟨v3, ev3, hf⟩ := ob hf
    refine g_getF dX11_takeContinued_10 ev3 t_383 hin15 hc15 (by decide) rfl ?_
    refine g_iload_n (j := 1) dX11_takeContinued_13 rfl rfl ?_
    obtain ⟨_, h6, hf⟩ := ob hf
    obtain ⟨σ4, v5, eσ4, hf⟩ := cb_el hf
    refine g_callVN_i dX11_takeContinued_14 (wX5_continuedForm _ eσ4) (okX5_continuedForm _ (by decide) (by decide)) (ckK_el h6) hc9 t_1014 t_1016 s_X5_continuedForm rfl (Nat.le_trans (cat_le _) (Nat.le_of_ble_eq_true rfl)) rfl ?_
    refine g_icmp_lt (tgt := 28) dX11_takeContinued_17 (by decide) (fun c7 => ?_) (fun c7 => ?_)
    · rw [if_pos c7] at hf
      refine g_aload_n (j := 0) dX11_takeContinued_28 rfl rfl ?_
      refine g_aload_n (j := 0) dX11_takeContinued_29 rfl rfl ?_
      obtain ⟨v8, ev8, hf⟩ := ob hf
      refine g_getF dX11_takeContinued_30 ev8 t_391 hin15 hc15 (by decide) rfl ?_
      obtain ⟨v9, ev9, hf⟩ := ob hf
      refine g_getFN dX11_takeContinued_33 ev9 t_176 hin9 hc9 (by decide) rfl ?_
      obtain ⟨_, h12, hf⟩ := ob hf
      obtain ⟨σ10, v11, eσ10, hf⟩ := cb_el hf
      refine g_callV_i dX11_takeContinued_36 (wX11_takeCopy _ eσ10) (okX11_takeCopy _ (by decide) (by decide)) (ckK_el h12) hc15 t_1755 t_1757 s_X11_takeCopy rfl (Nat.le_trans (cat_le _) (Nat.le_of_ble_eq_true rfl)) rfl ?_
      cases hf
      exact g_iret dX11_takeContinued_39 rfl rfl hX2 hX1 rfl
    · rw [if_neg c7] at hf
      refine g_sub (L' := []) [] rfl ?_
      exact bX11_takeContinued_20 hX1 hX2 hf

theorem okX11_takeContinued (M : Mt) (h1 : 8 + 1 ≤ M.2.2.2.2.1) (h2 : 8 + (2 + 11) + 246 ≤ M.2.2.2.2.2.1) : CallOk M MtX11_takeContinued yX11_takeContinued 1 := ⟨t_1773, h1, h2, ⟨by decide, by decide⟩, by decide +kernel, t_1⟩
abbrev MtX5_addSmall : Mt := (cX5_addSmall, 3, "ExactlySaid$Reckoner", none, 6, 251, false)
set_option maxRecDepth 100000 in
set_option maxHeartbeats 4000000 in
theorem wX5_addSmall (l : Launch) {σ σf : St} {x0 : Nat} {x1 : Int32} {x2 : Int32} {r : Unit} (hf : fX5_addSmall σ x0 x1 x2 = some (σf, r)) : Con MtX5_addSmall yX5_addSmall l σ [rv x0, .int x1, .int x2] σf (none) := by
  refine Con.of (by decide +kernel) rfl (fun h => absurd (show false = true from h) (by decide)) (by simp only [sl_n, sl_r, sl_i, sl_l]; exact Nat.le_of_ble_eq_true rfl) ?_
  rw [show lv_args 0 [rv x0, .int x1, .int x2] = [(0, rv x0), (1, .int x1), (2, .int x2)] by simp only [la_n, la_r, la_i, la_l] <;> rfl]
  have hX1 : ((l, σ, σf, .inl (none)) : Xt).2.2.1 = σf := rfl
  have hX2 : ((l, σ, σf, .inl (none)) : Xt).2.2.2 = .inl (none) := rfl
  unfold fX5_addSmall at hf
  refine g_aload_n (j := 0) dX5_addSmall_0 rfl rfl ?_
  obtain ⟨v1, ev1, hf⟩ := ob hf
  refine g_getF dX5_addSmall_1 ev1 t_173 hin9 hc9 (by decide) rfl ?_
  refine g_aload_n (j := 0) dX5_addSmall_4 rfl rfl ?_
  obtain ⟨v2, ev2, hf⟩ := ob hf
  refine g_getF dX5_addSmall_5 ev2 t_175 hin9 hc9 (by decide) rfl ?_
  obtain ⟨_, h5, hf⟩ := ob hf
  obtain ⟨σ3, v4, eσ3, hf⟩ := cb_el hf
  refine g_callVN_v dX5_addSmall_8 (wX1_setTo _ eσ3) (okX1_setTo _ (by decide) (by decide)) (ckK_el h5) hc5 t_1044 t_1046 s_X1_setTo rfl (Nat.le_trans (cat_le _) (Nat.le_of_ble_eq_true rfl)) rfl ?_
  refine g_aload_n (j := 0) dX5_addSmall_11 rfl rfl ?_
  obtain ⟨v6, ev6, hf⟩ := ob hf
  refine g_getF dX5_addSmall_12 ev6 t_174 hin9 hc9 (by decide) rfl ?_
  obtain ⟨v7, ev7, hf⟩ := ob hf
  refine g_getFN dX5_addSmall_15 ev7 t_77 hin5 hc5 (by decide) rfl ?_
  refine g_iload_n (j := 1) dX5_addSmall_18 rfl rfl ?_
  refine g_i2l dX5_addSmall_19 rfl ?_
  obtain ⟨_, h10, hf⟩ := ob hf
  obtain ⟨σ8, v9, eσ8, hf⟩ := cb_el hf
  refine g_callVN_v dX5_addSmall_20 (wX3_setSmall _ eσ8) (okX3_setSmall _ (by decide) (by decide)) (ckK_el h10) hc7 t_895 t_69 s_X3_setSmall rfl (Nat.le_trans (cat_le _) (Nat.le_of_ble_eq_true rfl)) rfl ?_
  refine g_aload_n (j := 0) dX5_addSmall_23 rfl rfl ?_
  obtain ⟨v11, ev11, hf⟩ := ob hf
  refine g_getF dX5_addSmall_24 ev11 t_174 hin9 hc9 (by decide) rfl ?_
  obtain ⟨v12, ev12, hf⟩ := ob hf
  refine g_getFN dX5_addSmall_27 ev12 t_82 hin5 hc5 (by decide) rfl ?_
  refine g_iload_n (j := 2) dX5_addSmall_30 rfl rfl ?_
  refine g_i2l dX5_addSmall_31 rfl ?_
  obtain ⟨_, h15, hf⟩ := ob hf
  obtain ⟨σ13, v14, eσ13, hf⟩ := cb_el hf
  refine g_callVN_v dX5_addSmall_32 (wX3_setSmall _ eσ13) (okX3_setSmall _ (by decide) (by decide)) (ckK_el h15) hc7 t_895 t_69 s_X3_setSmall rfl (Nat.le_trans (cat_le _) (Nat.le_of_ble_eq_true rfl)) rfl ?_
  refine g_aload_n (j := 0) dX5_addSmall_35 rfl rfl ?_
  obtain ⟨v16, ev16, hf⟩ := ob hf
  refine g_getF dX5_addSmall_36 ev16 t_174 hin9 hc9 (by decide) rfl ?_
  refine g_iconst (v := 1) dX5_addSmall_39 (by decide) ?_
  obtain ⟨_, h19, hf⟩ := ob hf
  obtain ⟨σ17, v18, eσ17, hf⟩ := cb_el hf
  refine g_callVN_v dX5_addSmall_40 (wX1_setSign _ eσ17) (okX1_setSign _ (by decide) (by decide)) (ckK_el h19) hc5 t_1026 t_1028 s_X1_setSign rfl (Nat.le_trans (cat_le _) (Nat.le_of_ble_eq_true rfl)) rfl ?_
  refine g_aload_n (j := 0) dX5_addSmall_43 rfl rfl ?_
  refine g_aload_n (j := 0) dX5_addSmall_44 rfl rfl ?_
  obtain ⟨v20, ev20, hf⟩ := ob hf
  refine g_getF dX5_addSmall_45 ev20 t_173 hin9 hc9 (by decide) rfl ?_
  refine g_aload_n (j := 0) dX5_addSmall_48 rfl rfl ?_
  obtain ⟨v21, ev21, hf⟩ := ob hf
  refine g_getF dX5_addSmall_49 ev21 t_174 hin9 hc9 (by decide) rfl ?_
  refine g_iconst (v := 0) dX5_addSmall_52 (by decide) ?_
  refine g_aload_n (j := 0) dX5_addSmall_53 rfl rfl ?_
  obtain ⟨v22, ev22, hf⟩ := ob hf
  refine g_getF dX5_addSmall_54 ev22 t_175 hin9 hc9 (by decide) rfl ?_
  obtain ⟨_, h25, hf⟩ := ob hf
  obtain ⟨σ23, v24, eσ23, hf⟩ := cb_el hf
  refine g_callV_v dX5_addSmall_57 (wX5_add _ eσ23) (okX5_add _ (by decide) (by decide)) (ckK_el h25) hc9 t_1049 t_1051 s_X5_add rfl (Nat.le_trans (cat_le _) (Nat.le_of_ble_eq_true rfl)) rfl ?_
  exact g_vret dX5_addSmall_60 rfl hX2 hX1 hf

theorem okX5_addSmall (M : Mt) (h1 : 6 + 1 ≤ M.2.2.2.2.1) (h2 : 8 + (3 + 11) + 251 ≤ M.2.2.2.2.2.1) : CallOk M MtX5_addSmall yX5_addSmall 2 := ⟨t_1788, h1, h2, ⟨by decide, by decide⟩, by decide +kernel, t_9⟩
abbrev MtX5_bestWithin : Mt := (cX5_bestWithin, 10, "ExactlySaid$Reckoner", (Option.some Jvm.ClassFile.FieldType.int), 7, 273, false)
set_option maxRecDepth 100000 in
set_option maxHeartbeats 4000000 in
theorem bX5_bestWithin_225 {X : Xt} {σf : St} {r : Int32} (hX1 : X.2.2.1 = σf) (hX2 : X.2.2.2 = .inl (some (.int r))) {σ : St} {x7 : Int32} {x9 : Int32} {y0 : Nat} {y1 : Int32} {y2 : Int32} (hf : fX5_bestWithin_225 σ x7 x9 y0 y1 y2 = some (σf, r)) : G MtX5_bestWithin X σ 225 [(7, .int x7), (9, .int x9)] [.int y2, .int y1, rv y0] := by
  unfold fX5_bestWithin_225 at hf
  obtain ⟨_, h3, hf⟩ := ob hf
  obtain ⟨σ1, v2, eσ1, hf⟩ := cb_el hf
  refine g_callV_v dX5_bestWithin_225 (wX5_addSmall _ eσ1) (okX5_addSmall _ (by decide) (by decide)) (ckK_el h3) hc9 t_1785 t_1787 s_X5_addSmall rfl (Nat.le_trans (cat_le _) (Nat.le_of_ble_eq_true rfl)) rfl ?_
  refine g_iload (j := 0) dX5_bestWithin_228 rfl ?_
  refine g_if_eq (tgt := 237) dX5_bestWithin_230 (by decide) (fun c4 => ?_) (fun c4 => ?_)
  · rw [if_pos c4] at hf
    refine g_iload (j := 1) dX5_bestWithin_237 rfl ?_
    refine g_if_eq (tgt := 246) dX5_bestWithin_239 (by decide) (fun c5 => ?_) (fun c5 => ?_)
    · rw [if_pos c5] at hf
      refine g_iconst (v := 1) dX5_bestWithin_246 (by decide) ?_
      exact g_iret dX5_bestWithin_247 rfl rfl hX2 hX1 hf
    · rw [if_neg c5] at hf
      refine g_iconst (v := (-1)) dX5_bestWithin_242 (by decide) ?_
      refine g_goto (tgt := 247) dX5_bestWithin_243 (by decide) ?_
      exact g_iret dX5_bestWithin_247 rfl rfl hX2 hX1 hf
  · rw [if_neg c4] at hf
    refine g_iconst (v := 0) dX5_bestWithin_233 (by decide) ?_
    refine g_goto (tgt := 247) dX5_bestWithin_234 (by decide) ?_
    exact g_iret dX5_bestWithin_247 rfl rfl hX2 hX1 hf

set_option maxRecDepth 100000 in
set_option maxHeartbeats 4000000 in
theorem bX5_bestWithin_213 {X : Xt} {σf : St} {r : Int32} (hX1 : X.2.2.1 = σf) (hX2 : X.2.2.2 = .inl (some (.int r))) {σ : St} {x4 : Int32} {x6 : Int32} {x7 : Int32} {x9 : Int32} {y0 : Nat} {y1 : Int32} (hf : fX5_bestWithin_213 σ x4 x6 x7 x9 y0 y1 = some (σf, r)) : G MtX5_bestWithin X σ 213 [(4, .int x4), (6, .int x6), (7, .int x7), (9, .int x9)] [.int y1, rv y0] := by
  unfold fX5_bestWithin_213 at hf
  refine g_iload (j := 3) dX5_bestWithin_213 rfl ?_
  refine g_if_eq (tgt := 223) dX5_bestWithin_215 (by decide) (fun c1 => ?_) (fun c1 => ?_)
  · rw [if_pos c1] at hf
    refine g_iload (j := 1) dX5_bestWithin_223 rfl ?_
    refine g_sub (L' := [(7, .int x7), (9, .int x9)]) [2, 3] rfl ?_
    exact bX5_bestWithin_225 hX1 hX2 hf
  · rw [if_neg c1] at hf
    refine g_iload (j := 0) dX5_bestWithin_218 rfl ?_
    refine g_goto (tgt := 225) dX5_bestWithin_220 (by decide) ?_
    refine g_sub (L' := [(7, .int x7), (9, .int x9)]) [2, 3] rfl ?_
    exact bX5_bestWithin_225 hX1 hX2 hf

set_option maxRecDepth 100000 in
set_option maxHeartbeats 4000000 in
theorem bX5_bestWithin_199 {X : Xt} {σf : St} {r : Int32} (hX1 : X.2.2.1 = σf) (hX2 : X.2.2.2 = .inl (some (.int r))) {σ : St} {x0 : Nat} {x3 : Int32} {x4 : Int32} {x5 : Int32} {x6 : Int32} {x7 : Int32} {y0 : Int32} (hf : fX5_bestWithin_199 σ x0 x3 x4 x5 x6 x7 y0 = some (σf, r)) : G MtX5_bestWithin X σ 199 [(0, rv x0), (3, .int x3), (4, .int x4), (5, .int x5), (6, .int x6), (7, .int x7)] [.int y0] := by
  unfold fX5_bestWithin_199 at hf
  refine g_istore (i := 9) (L' := [(9, .int y0), (0, rv x0), (3, .int x3), (4, .int x4), (5, .int x5), (6, .int x6), (7, .int x7)]) dX5_bestWithin_199 (Nat.le_of_ble_eq_true rfl) rfl ?_
  refine g_aload_n (j := 1) dX5_bestWithin_201 rfl rfl ?_
  refine g_iload (j := 0) dX5_bestWithin_202 rfl ?_
  refine g_if_eq (tgt := 211) dX5_bestWithin_204 (by decide) (fun c1 => ?_) (fun c1 => ?_)
  · rw [if_pos c1] at hf
    refine g_iload (j := 4) dX5_bestWithin_211 rfl ?_
    refine g_sub (L' := [(4, .int x4), (6, .int x6), (7, .int x7), (9, .int y0)]) [3, 5, 6, 0] rfl ?_
    exact bX5_bestWithin_213 hX1 hX2 hf
  · rw [if_neg c1] at hf
    refine g_iload_n (j := 2) dX5_bestWithin_207 rfl rfl ?_
    refine g_goto (tgt := 213) dX5_bestWithin_208 (by decide) ?_
    refine g_sub (L' := [(4, .int x4), (6, .int x6), (7, .int x7), (9, .int y0)]) [3, 5, 6, 0] rfl ?_
    exact bX5_bestWithin_213 hX1 hX2 hf

set_option maxRecDepth 100000 in
set_option maxHeartbeats 4000000 in
theorem bX5_bestWithin_194 {X : Xt} {σf : St} {r : Int32} (hX1 : X.2.2.1 = σf) (hX2 : X.2.2.2 = .inl (some (.int r))) {σ : St} {x0 : Nat} {x3 : Int32} {x4 : Int32} {x5 : Int32} {x6 : Int32} {x7 : Int32} (hf : fX5_bestWithin_194 σ x0 x3 x4 x5 x6 x7 = some (σf, r)) : G MtX5_bestWithin X σ 194 [(0, rv x0), (3, .int x3), (4, .int x4), (5, .int x5), (6, .int x6), (7, .int x7)] [] := by
  unfold fX5_bestWithin_194 at hf
  refine g_iconst (v := 1) dX5_bestWithin_194 (by decide) ?_
  refine g_goto (tgt := 199) dX5_bestWithin_195 (by decide) ?_
  exact bX5_bestWithin_199 hX1 hX2 hf

set_option maxRecDepth 100000 in
set_option maxHeartbeats 4000000 in
theorem bX5_bestWithin_198 {X : Xt} {σf : St} {r : Int32} (hX1 : X.2.2.1 = σf) (hX2 : X.2.2.2 = .inl (some (.int r))) {σ : St} {x0 : Nat} {x3 : Int32} {x4 : Int32} {x5 : Int32} {x6 : Int32} {x7 : Int32} (hf : fX5_bestWithin_198 σ x0 x3 x4 x5 x6 x7 = some (σf, r)) : G MtX5_bestWithin X σ 198 [(0, rv x0), (3, .int x3), (4, .int x4), (5, .int x5), (6, .int x6), (7, .int x7)] [] := by
  unfold fX5_bestWithin_198 at hf
  refine g_iconst (v := 0) dX5_bestWithin_198 (by decide) ?_
  exact bX5_bestWithin_199 hX1 hX2 hf

set_option maxRecDepth 100000 in
set_option maxHeartbeats 4000000 in
theorem bX5_bestWithin_135 {X : Xt} {σf : St} {r : Int32} (hX1 : X.2.2.1 = σf) (hX2 : X.2.2.2 = .inl (some (.int r))) {σ : St} {x0 : Nat} {x3 : Int32} {x4 : Int32} {x5 : Int32} {x6 : Int32} (hf : fX5_bestWithin_135 σ x0 x3 x4 x5 x6 = some (σf, r)) : G MtX5_bestWithin X σ 135 [(0, rv x0), (3, .int x3), (4, .int x4), (5, .int x5), (6, .int x6)] [] := by
  unfold fX5_bestWithin_135 at hf
  refine g_aload_n (j := 0) dX5_bestWithin_135 rfl rfl ?_
  obtain ⟨v1, ev1, hf⟩ := ob hf
  refine g_getF dX5_bestWithin_136 ev1 t_168 hin9 hc9 (by decide) rfl ?_
  obtain ⟨_, h4, hf⟩ := ob hf
  obtain ⟨σ2, v3, eσ2, hf⟩ := cb_el hf
  refine g_callVN_i dX5_bestWithin_139 (wX3_isZero _ eσ2) (okX3_isZero _ (by decide) (by decide)) (ckK_el h4) hc7 t_1022 t_1024 s_X3_isZero rfl (Nat.le_trans (cat_le _) (Nat.le_of_ble_eq_true rfl)) rfl ?_
  refine g_istore (i := 7) (L' := [(7, .int v3), (0, rv x0), (3, .int x3), (4, .int x4), (5, .int x5), (6, .int x6)]) dX5_bestWithin_142 (Nat.le_of_ble_eq_true rfl) rfl ?_
  refine g_aload_n (j := 1) dX5_bestWithin_144 rfl rfl ?_
  obtain ⟨v5, ev5, hf⟩ := ob hf
  refine g_getF dX5_bestWithin_145 ev5 t_168 hin9 hc9 (by decide) rfl ?_
  refine g_iload (j := 5) dX5_bestWithin_148 rfl ?_
  refine g_iconst (v := 0) dX5_bestWithin_150 (by decide) ?_
  obtain ⟨_, h8, hf⟩ := ob hf
  obtain ⟨σ6, v7, eσ6, hf⟩ := cb_el hf
  refine g_callVN_v dX5_bestWithin_151 (wX3_raise _ eσ6) (okX3_raise _ (by decide) (by decide)) (ckK_el h8) hc7 t_896 t_898 s_X3_raise rfl (Nat.le_trans (cat_le _) (Nat.le_of_ble_eq_true rfl)) rfl ?_
  refine g_aload_n (j := 1) dX5_bestWithin_154 rfl rfl ?_
  obtain ⟨v9, ev9, hf⟩ := ob hf
  refine g_getF dX5_bestWithin_155 ev9 t_169 hin9 hc9 (by decide) rfl ?_
  refine g_iload (j := 3) dX5_bestWithin_158 rfl ?_
  refine g_iconst (v := 0) dX5_bestWithin_160 (by decide) ?_
  obtain ⟨_, h12, hf⟩ := ob hf
  obtain ⟨σ10, v11, eσ10, hf⟩ := cb_el hf
  refine g_callVN_v dX5_bestWithin_161 (wX3_raise _ eσ10) (okX3_raise _ (by decide) (by decide)) (ckK_el h12) hc7 t_896 t_898 s_X3_raise rfl (Nat.le_trans (cat_le _) (Nat.le_of_ble_eq_true rfl)) rfl ?_
  refine g_aload_n (j := 1) dX5_bestWithin_164 rfl rfl ?_
  obtain ⟨v13, ev13, hf⟩ := ob hf
  refine g_getF dX5_bestWithin_165 ev13 t_168 hin9 hc9 (by decide) rfl ?_
  refine g_aload_n (j := 1) dX5_bestWithin_168 rfl rfl ?_
  obtain ⟨v14, ev14, hf⟩ := ob hf
  refine g_getF dX5_bestWithin_169 ev14 t_169 hin9 hc9 (by decide) rfl ?_
  obtain ⟨_, h17, hf⟩ := ob hf
  obtain ⟨σ15, v16, eσ15, hf⟩ := cb_el hf
  refine g_callVN_i dX5_bestWithin_172 (wX3_against _ eσ15) (okX3_against _ (by decide) (by decide)) (ckK_el h17) hc7 t_908 t_910 s_X3_against rfl (Nat.le_trans (cat_le _) (Nat.le_of_ble_eq_true rfl)) rfl ?_
  refine g_istore (i := 8) (L' := [(8, .int v16), (7, .int v3), (0, rv x0), (3, .int x3), (4, .int x4), (5, .int x5), (6, .int x6)]) dX5_bestWithin_175 (Nat.le_of_ble_eq_true rfl) rfl ?_
  refine g_iload (j := 0) dX5_bestWithin_177 rfl ?_
  refine g_if_lt (tgt := 194) dX5_bestWithin_179 (by decide) (fun c18 => ?_) (fun c18 => ?_)
  · rw [if_pos c18] at hf
    refine g_sub (L' := [(0, rv x0), (3, .int x3), (4, .int x4), (5, .int x5), (6, .int x6), (7, .int v3)]) [2, 3, 4, 5, 6, 1] rfl ?_
    exact bX5_bestWithin_194 hX1 hX2 hf
  · rw [if_neg c18] at hf
    refine g_iload (j := 0) dX5_bestWithin_182 rfl ?_
    refine g_if_ne (tgt := 198) dX5_bestWithin_184 (by decide) (fun c19 => ?_) (fun c19 => ?_)
    · rw [if_neg c19] at hf
      refine g_sub (L' := [(0, rv x0), (3, .int x3), (4, .int x4), (5, .int x5), (6, .int x6), (7, .int v3)]) [2, 3, 4, 5, 6, 1] rfl ?_
      exact bX5_bestWithin_198 hX1 hX2 hf
    · rw [if_pos c19] at hf
      refine g_iload (j := 4) dX5_bestWithin_187 rfl ?_
      refine g_iload (j := 6) dX5_bestWithin_189 rfl ?_
      refine g_icmp_gt (tgt := 198) dX5_bestWithin_191 (by decide) (fun c20 => ?_) (fun c20 => ?_)
      · rw [if_pos c20] at hf
        refine g_sub (L' := [(0, rv x0), (3, .int x3), (4, .int x4), (5, .int x5), (6, .int x6), (7, .int v3)]) [2, 3, 4, 5, 6, 1] rfl ?_
        exact bX5_bestWithin_198 hX1 hX2 hf
      · rw [if_neg c20] at hf
        refine g_sub (L' := [(0, rv x0), (3, .int x3), (4, .int x4), (5, .int x5), (6, .int x6), (7, .int v3)]) [2, 3, 4, 5, 6, 1] rfl ?_
        exact bX5_bestWithin_194 hX1 hX2 hf

set_option maxRecDepth 100000 in
set_option maxHeartbeats 4000000 in
theorem bX5_bestWithin_49 {X : Xt} {σf : St} {r : Int32} (hX1 : X.2.2.1 = σf) (hX2 : X.2.2.2 = .inl (some (.int r))) : ∀ (n : Nat) (σ : St) (x0 : Nat) (x2 : Int32) (x3 : Int32) (x4 : Int32) (x5 : Int32) (x6 : Int32), fX5_bestWithin_49 n σ x0 x2 x3 x4 x5 x6 = some (σf, r) → G MtX5_bestWithin X σ 49 [(0, rv x0), (2, .int x2), (3, .int x3), (4, .int x4), (5, .int x5), (6, .int x6)] [] := by
  intro n
  induction n with
  | zero => intro σ x0 x2 x3 x4 x5 x6 hf; cases hf
  | succ n ih =>
    intro σ x0 x2 x3 x4 x5 x6 hf
    rw [fX5_bestWithin_49] at hf
    refine g_iload (j := 3) dX5_bestWithin_49 rfl ?_
    refine g_iload (j := 5) dX5_bestWithin_51 rfl ?_
    refine g_iadd dX5_bestWithin_53 ?_
    refine g_iload_n (j := 1) dX5_bestWithin_54 rfl rfl ?_
    refine g_icmp_gt (tgt := 135) dX5_bestWithin_55 (by decide) (fun c1 => ?_) (fun c1 => ?_)
    · rw [if_pos c1] at hf
      refine g_sub (L' := [(0, rv x0), (3, .int x3), (4, .int x4), (5, .int x5), (6, .int x6)]) [0, 2, 3, 4, 5] rfl ?_
      exact bX5_bestWithin_135 hX1 hX2 hf
    · rw [if_neg c1] at hf
      refine g_aload_n (j := 0) dX5_bestWithin_58 rfl rfl ?_
      obtain ⟨v2, ev2, hf⟩ := ob hf
      refine g_getF dX5_bestWithin_59 ev2 t_168 hin9 hc9 (by decide) rfl ?_
      obtain ⟨_, h5, hf⟩ := ob hf
      obtain ⟨σ3, v4, eσ3, hf⟩ := cb_el hf
      refine g_callVN_i dX5_bestWithin_62 (wX3_isZero _ eσ3) (okX3_isZero _ (by decide) (by decide)) (ckK_el h5) hc7 t_1022 t_1024 s_X3_isZero rfl (Nat.le_trans (cat_le _) (Nat.le_of_ble_eq_true rfl)) rfl ?_
      refine g_if_ne (tgt := 135) dX5_bestWithin_65 (by decide) (fun c6 => ?_) (fun c6 => ?_)
      · rw [if_neg c6] at hf
        refine g_sub (L' := [(0, rv x0), (3, .int x3), (4, .int x4), (5, .int x5), (6, .int x6)]) [0, 2, 3, 4, 5] rfl ?_
        exact bX5_bestWithin_135 hX1 hX2 hf
      · rw [if_pos c6] at hf
        refine g_aload_n (j := 0) dX5_bestWithin_68 rfl rfl ?_
        obtain ⟨v7, ev7, hf⟩ := ob hf
        refine g_getF dX5_bestWithin_69 ev7 t_168 hin9 hc9 (by decide) rfl ?_
        refine g_aload_n (j := 0) dX5_bestWithin_72 rfl rfl ?_
        obtain ⟨v8, ev8, hf⟩ := ob hf
        refine g_getF dX5_bestWithin_73 ev8 t_169 hin9 hc9 (by decide) rfl ?_
        obtain ⟨_, h11, hf⟩ := ob hf
        obtain ⟨σ9, v10, eσ9, hf⟩ := cb_el hf
        refine g_callVN_i dX5_bestWithin_76 (wX3_against _ eσ9) (okX3_against _ (by decide) (by decide)) (ckK_el h11) hc7 t_908 t_910 s_X3_against rfl (Nat.le_trans (cat_le _) (Nat.le_of_ble_eq_true rfl)) rfl ?_
        refine g_if_lt (tgt := 108) dX5_bestWithin_79 (by decide) (fun c12 => ?_) (fun c12 => ?_)
        · rw [if_pos c12] at hf
          refine g_aload_n (j := 0) dX5_bestWithin_108 rfl rfl ?_
          obtain ⟨v13, ev13, hf⟩ := ob hf
          refine g_getF dX5_bestWithin_109 ev13 t_169 hin9 hc9 (by decide) rfl ?_
          refine g_aload_n (j := 0) dX5_bestWithin_112 rfl rfl ?_
          obtain ⟨v14, ev14, hf⟩ := ob hf
          refine g_getF dX5_bestWithin_113 ev14 t_168 hin9 hc9 (by decide) rfl ?_
          obtain ⟨_, h17, hf⟩ := ob hf
          obtain ⟨σ15, v16, eσ15, hf⟩ := cb_el hf
          refine g_callVN_v dX5_bestWithin_116 (wX3_minus _ eσ15) (okX3_minus _ (by decide) (by decide)) (ckK_el h17) hc7 t_912 t_914 s_X3_minus rfl (Nat.le_trans (cat_le _) (Nat.le_of_ble_eq_true rfl)) rfl ?_
          refine g_iload (j := 4) dX5_bestWithin_119 rfl ?_
          refine g_iload_n (j := 2) dX5_bestWithin_121 rfl rfl ?_
          refine g_iadd dX5_bestWithin_122 ?_
          obtain ⟨v18, ev18, hf⟩ := nm_el hf
          refine g_topI ev18 ?_
          refine g_istore (i := 5) (L' := [(5, .int v18), (0, rv x0), (2, .int x2), (3, .int x3), (4, .int x4), (6, .int x6)]) dX5_bestWithin_123 (Nat.le_of_ble_eq_true rfl) rfl ?_
          refine g_iload (j := 5) dX5_bestWithin_125 rfl ?_
          refine g_iload (j := 4) dX5_bestWithin_127 rfl ?_
          refine g_iadd dX5_bestWithin_129 ?_
          obtain ⟨v19, ev19, hf⟩ := nm_el hf
          refine g_topI ev19 ?_
          refine g_istore (i := 6) (L' := [(6, .int v19), (5, .int v18), (0, rv x0), (2, .int x2), (3, .int x3), (4, .int x4)]) dX5_bestWithin_130 (Nat.le_of_ble_eq_true rfl) rfl ?_
          refine g_goto (tgt := 49) dX5_bestWithin_132 (by decide) ?_
          refine g_sub (L' := [(0, rv x0), (2, .int x2), (3, .int x3), (4, .int x4), (5, .int v18), (6, .int v19)]) [2, 3, 4, 5, 1, 0] rfl ?_
          exact ih _ _ _ _ _ _ _ hf
        · rw [if_neg c12] at hf
          refine g_aload_n (j := 0) dX5_bestWithin_82 rfl rfl ?_
          obtain ⟨v20, ev20, hf⟩ := ob hf
          refine g_getF dX5_bestWithin_83 ev20 t_168 hin9 hc9 (by decide) rfl ?_
          refine g_aload_n (j := 0) dX5_bestWithin_86 rfl rfl ?_
          obtain ⟨v21, ev21, hf⟩ := ob hf
          refine g_getF dX5_bestWithin_87 ev21 t_169 hin9 hc9 (by decide) rfl ?_
          obtain ⟨_, h24, hf⟩ := ob hf
          obtain ⟨σ22, v23, eσ22, hf⟩ := cb_el hf
          refine g_callVN_v dX5_bestWithin_90 (wX3_minus _ eσ22) (okX3_minus _ (by decide) (by decide)) (ckK_el h24) hc7 t_912 t_914 s_X3_minus rfl (Nat.le_trans (cat_le _) (Nat.le_of_ble_eq_true rfl)) rfl ?_
          refine g_iload_n (j := 2) dX5_bestWithin_93 rfl rfl ?_
          refine g_iload (j := 4) dX5_bestWithin_94 rfl ?_
          refine g_iadd dX5_bestWithin_96 ?_
          obtain ⟨v25, ev25, hf⟩ := nm_el hf
          refine g_topI ev25 ?_
          refine g_istore_n (i := 3) (L' := [(3, .int v25), (0, rv x0), (2, .int x2), (4, .int x4), (5, .int x5), (6, .int x6)]) dX5_bestWithin_97 rfl (Nat.le_of_ble_eq_true rfl) rfl ?_
          refine g_iload (j := 3) dX5_bestWithin_98 rfl ?_
          refine g_iload (j := 5) dX5_bestWithin_100 rfl ?_
          refine g_iadd dX5_bestWithin_102 ?_
          obtain ⟨v26, ev26, hf⟩ := nm_el hf
          refine g_topI ev26 ?_
          refine g_istore (i := 4) (L' := [(4, .int v26), (3, .int v25), (0, rv x0), (2, .int x2), (5, .int x5), (6, .int x6)]) dX5_bestWithin_103 (Nat.le_of_ble_eq_true rfl) rfl ?_
          refine g_goto (tgt := 49) dX5_bestWithin_105 (by decide) ?_
          refine g_sub (L' := [(0, rv x0), (2, .int x2), (3, .int v25), (4, .int v26), (5, .int x5), (6, .int x6)]) [2, 3, 1, 0, 4, 5] rfl ?_
          exact ih _ _ _ _ _ _ _ hf

set_option maxRecDepth 100000 in
set_option maxHeartbeats 4000000 in
theorem wX5_bestWithin (l : Launch) {σ σf : St} {x0 : Nat} {x1 : Nat} {x2 : Int32} {r : Int32} (hf : fX5_bestWithin σ x0 x1 x2 = some (σf, r)) : Con MtX5_bestWithin yX5_bestWithin l σ [rv x0, rv x1, .int x2] σf (some (.int r)) := by
  refine Con.of (by decide +kernel) rfl (fun h => absurd (show false = true from h) (by decide)) (by simp only [sl_n, sl_r, sl_i, sl_l]; exact Nat.le_of_ble_eq_true rfl) ?_
  rw [show lv_args 0 [rv x0, rv x1, .int x2] = [(0, rv x0), (1, rv x1), (2, .int x2)] by simp only [la_n, la_r, la_i, la_l] <;> rfl]
  have hX1 : ((l, σ, σf, .inl (some (.int r))) : Xt).2.2.1 = σf := rfl
  have hX2 : ((l, σ, σf, .inl (some (.int r))) : Xt).2.2.2 = .inl (some (.int r)) := rfl
  unfold fX5_bestWithin at hf
  refine g_aload_n (j := 0) dX5_bestWithin_0 rfl rfl ?_
  refine g_aload_n (j := 1) dX5_bestWithin_1 rfl rfl ?_
  refine g_bipush (v := 12) dX5_bestWithin_2 (by decide) ?_
  refine g_aload_n (j := 0) dX5_bestWithin_4 rfl rfl ?_
  obtain ⟨v1, ev1, hf⟩ := ob hf
  refine g_getF dX5_bestWithin_5 ev1 t_175 hin9 hc9 (by decide) rfl ?_
  obtain ⟨_, h4, hf⟩ := ob hf
  obtain ⟨σ2, v3, eσ2, hf⟩ := cb_el hf
  refine g_callV_v dX5_bestWithin_8 (wX5_round _ eσ2) (okX5_round _ (by decide) (by decide)) (ckK_el h4) hc9 t_1018 t_1020 s_X5_round rfl (Nat.le_trans (cat_le _) (Nat.le_of_ble_eq_true rfl)) rfl ?_
  refine g_aload_n (j := 0) dX5_bestWithin_11 rfl rfl ?_
  refine g_aload_n (j := 1) dX5_bestWithin_12 rfl rfl ?_
  obtain ⟨_, h7, hf⟩ := ob hf
  obtain ⟨σ5, v6, eσ5, hf⟩ := cb_el hf
  refine g_callV_v dX5_bestWithin_13 (wX5_setAboveFloor _ eσ5) (okX5_setAboveFloor _ (by decide) (by decide)) (ckK_el h7) hc9 t_1031 t_1033 s_X5_setAboveFloor rfl (Nat.le_trans (cat_le _) (Nat.le_of_ble_eq_true rfl)) rfl ?_
  refine g_aload_n (j := 0) dX5_bestWithin_16 rfl rfl ?_
  obtain ⟨v8, ev8, hf⟩ := ob hf
  refine g_getF dX5_bestWithin_17 ev8 t_169 hin9 hc9 (by decide) rfl ?_
  refine g_aload_n (j := 1) dX5_bestWithin_20 rfl rfl ?_
  obtain ⟨v9, ev9, hf⟩ := ob hf
  refine g_getFN dX5_bestWithin_21 ev9 t_82 hin5 hc5 (by decide) rfl ?_
  obtain ⟨_, h12, hf⟩ := ob hf
  obtain ⟨σ10, v11, eσ10, hf⟩ := cb_el hf
  refine g_callVN_v dX5_bestWithin_24 (wX3_setTo _ eσ10) (okX3_setTo _ (by decide) (by decide)) (ckK_el h12) hc7 t_863 t_865 s_X3_setTo rfl (Nat.le_trans (cat_le _) (Nat.le_of_ble_eq_true rfl)) rfl ?_
  refine g_aload_n (j := 0) dX5_bestWithin_27 rfl rfl ?_
  obtain ⟨v13, ev13, hf⟩ := ob hf
  refine g_getF dX5_bestWithin_28 ev13 t_169 hin9 hc9 (by decide) rfl ?_
  refine g_aload_n (j := 0) dX5_bestWithin_31 rfl rfl ?_
  obtain ⟨v14, ev14, hf⟩ := ob hf
  refine g_getF dX5_bestWithin_32 ev14 t_168 hin9 hc9 (by decide) rfl ?_
  obtain ⟨_, h17, hf⟩ := ob hf
  obtain ⟨σ15, v16, eσ15, hf⟩ := cb_el hf
  refine g_callVN_v dX5_bestWithin_35 (wX3_minus _ eσ15) (okX3_minus _ (by decide) (by decide)) (ckK_el h17) hc7 t_912 t_914 s_X3_minus rfl (Nat.le_trans (cat_le _) (Nat.le_of_ble_eq_true rfl)) rfl ?_
  refine g_iconst (v := 0) dX5_bestWithin_38 (by decide) ?_
  refine g_istore_n (i := 3) (L' := [(3, .int 0), (0, rv x0), (1, rv x1), (2, .int x2)]) dX5_bestWithin_39 rfl (Nat.le_of_ble_eq_true rfl) rfl ?_
  refine g_iconst (v := 1) dX5_bestWithin_40 (by decide) ?_
  refine g_istore (i := 4) (L' := [(4, .int 1), (3, .int 0), (0, rv x0), (1, rv x1), (2, .int x2)]) dX5_bestWithin_41 (Nat.le_of_ble_eq_true rfl) rfl ?_
  refine g_iconst (v := 1) dX5_bestWithin_43 (by decide) ?_
  refine g_istore (i := 5) (L' := [(5, .int 1), (4, .int 1), (3, .int 0), (0, rv x0), (1, rv x1), (2, .int x2)]) dX5_bestWithin_44 (Nat.le_of_ble_eq_true rfl) rfl ?_
  refine g_iconst (v := 1) dX5_bestWithin_46 (by decide) ?_
  refine g_istore (i := 6) (L' := [(6, .int 1), (5, .int 1), (4, .int 1), (3, .int 0), (0, rv x0), (1, rv x1), (2, .int x2)]) dX5_bestWithin_47 (Nat.le_of_ble_eq_true rfl) rfl ?_
  refine g_sub (L' := [(0, rv x0), (2, .int x2), (3, .int 0), (4, .int 1), (5, .int 1), (6, .int 1)]) [4, 6, 3, 2, 1, 0] rfl ?_
  exact bX5_bestWithin_49 hX1 hX2 FU _ _ _ _ _ _ _ hf

theorem okX5_bestWithin (M : Mt) (h1 : 7 + 1 ≤ M.2.2.2.2.1) (h2 : 8 + (10 + 11) + 273 ≤ M.2.2.2.2.2.1) : CallOk M MtX5_bestWithin yX5_bestWithin 2 := ⟨t_1784, h1, h2, ⟨by decide, by decide⟩, by decide +kernel, t_9⟩
abbrev MtX11_takeBest : Mt := (cX11_takeBest, 3, "ExactlySaid", (Option.some Jvm.ClassFile.FieldType.int), 8, 302, false)
set_option maxRecDepth 100000 in
set_option maxHeartbeats 4000000 in
theorem bX11_takeBest_12 {X : Xt} {σf : St} {r : (String ⊕ Int32)} (hX1 : X.2.2.1 = σf) (hX2 : X.2.2.2 = xo (ocI r)) {σ : St} (hf : fX11_takeBest_12 σ  = some (σf, r)) : G MtX11_takeBest X σ 12 [] [] := by
  unfold fX11_takeBest_12 at hf
  cases hf
  exact g_throw (cls := "java/lang/IllegalArgumentException") (names := ["java/lang/RuntimeException", "java/lang/Exception"]) dX11_takeBest_12 dX11_takeBest_15 dX11_takeBest_16 dX11_takeBest_19 (by decide +kernel) (by decide +kernel) thw_103 thg_103 (by decide) (by decide) hX2 hX1 rfl

set_option maxRecDepth 100000 in
set_option maxHeartbeats 4000000 in
theorem wX11_takeBest (l : Launch) (hst : l.stackTraces = false) {σ σf : St} {x0 : Nat} {x1 : Int32} {r : (String ⊕ Int32)} (hf : fX11_takeBest σ x0 x1 = some (σf, r)) : ConT MtX11_takeBest yX11_takeBest l σ [rv x0, .int x1] σf (ocI r) := by
  refine ConT.of hst (by decide +kernel) rfl (fun h => absurd (show false = true from h) (by decide)) (by simp only [sl_n, sl_r, sl_i, sl_l]; exact Nat.le_of_ble_eq_true rfl) ?_
  rw [show lv_args 0 [rv x0, .int x1] = [(0, rv x0), (1, .int x1)] by simp only [la_n, la_r, la_i, la_l] <;> rfl]
  have hX1 : ((l, σ, σf, xo (ocI r)) : Xt).2.2.1 = σf := rfl
  have hX2 : ((l, σ, σf, xo (ocI r)) : Xt).2.2.2 = xo (ocI r) := rfl
  generalize ((l, σ, σf, xo (ocI r)) : Xt) = X at hX1 hX2 ⊢
  unfold fX11_takeBest at hf
  refine g_iload_n (j := 1) dX11_takeBest_0 rfl rfl ?_
  refine g_iconst (v := 1) dX11_takeBest_1 (by decide) ?_
  refine g_icmp_lt (tgt := 12) dX11_takeBest_2 (by decide) (fun c1 => ?_) (fun c1 => ?_)
  · rw [if_pos c1] at hf
    refine g_sub (L' := []) [] rfl ?_
    exact bX11_takeBest_12 hX1 hX2 hf
  · rw [if_neg c1] at hf
    refine g_iload_n (j := 1) dX11_takeBest_5 rfl rfl ?_
    refine g_sipush (v := 1000) dX11_takeBest_6 (by decide) ?_
    refine g_icmp_le (tgt := 20) dX11_takeBest_9 (by decide) (fun c2 => ?_) (fun c2 => ?_)
    · rw [if_pos c2] at hf
      refine g_aload_n (j := 0) dX11_takeBest_20 rfl rfl ?_
      obtain ⟨v3, ev3, hf⟩ := ob hf
      refine g_getF dX11_takeBest_21 ev3 t_391 hin15 hc15 (by decide) rfl ?_
      refine g_aload_n (j := 0) dX11_takeBest_24 rfl rfl ?_
      obtain ⟨v4, ev4, hf⟩ := ob hf
      refine g_getF dX11_takeBest_25 ev4 t_383 hin15 hc15 (by decide) rfl ?_
      refine g_iload_n (j := 1) dX11_takeBest_28 rfl rfl ?_
      obtain ⟨_, h7, hf⟩ := ob hf
      obtain ⟨σ5, v6, eσ5, hf⟩ := cb_el hf
      refine g_callVN_i dX11_takeBest_29 (wX5_bestWithin _ eσ5) (okX5_bestWithin _ (by decide) (by decide)) (ckK_el h7) hc9 t_1781 t_1783 s_X5_bestWithin rfl (Nat.le_trans (cat_le _) (Nat.le_of_ble_eq_true rfl)) rfl ?_
      refine g_istore_n (i := 2) (L' := [(2, .int v6), (0, rv x0), (1, .int x1)]) dX11_takeBest_32 rfl (Nat.le_of_ble_eq_true rfl) rfl ?_
      refine g_aload_n (j := 1) dX11_takeBest_33 rfl rfl ?_
      obtain ⟨σ8, eσ8, hf⟩ := nm_el hf
      obtain ⟨a9, ea9, hf⟩ := nm_el hf
      refine g_new9 dX11_takeBest_34 hc5 hin5 hty5 hdf5 t_44 t_45 t_2 eσ8 ea9 ?_
      refine g_dup dX11_takeBest_37 (rv_cat _) ?_
      refine g_aload_n (j := 1) dX11_takeBest_38 rfl rfl ?_
      obtain ⟨v10, ev10, hf⟩ := ob hf
      refine g_getF dX11_takeBest_39 ev10 t_391 hin15 hc15 (by decide) rfl ?_
      obtain ⟨v11, ev11, hf⟩ := ob hf
      refine g_getFN dX11_takeBest_42 ev11 t_176 hin9 hc9 (by decide) rfl ?_
      obtain ⟨_, h14, hf⟩ := ob hf
      obtain ⟨σ12, v13, eσ12, hf⟩ := cb_el hf
      refine g_callIN dX11_takeBest_45 (wX1_init_ _ eσ12) (okX1_init_ _ (by decide) (by decide)) rfl (by rw [ckK_el h14]; decide) rfl t_1544 t_1545 rfl (Nat.le_trans (cat_le _) (Nat.le_of_ble_eq_true rfl)) rfl ?_
      obtain ⟨σ15, eσ15, hf⟩ := ob hf
      refine g_putF dX11_takeBest_48 eσ15 (Or.inl t_383) hin15 hc15 (by decide) hty15 hnm15 (Or.inl rfl) rfl ?_
      refine g_iload_n (j := 0) dX11_takeBest_51 rfl rfl ?_
      cases hf
      exact g_iret dX11_takeBest_52 rfl rfl hX2 hX1 rfl
    · rw [if_neg c2] at hf
      refine g_sub (L' := []) [] rfl ?_
      exact bX11_takeBest_12 hX1 hX2 hf

theorem okX11_takeBest (M : Mt) (h1 : 8 + 1 ≤ M.2.2.2.2.1) (h2 : 8 + (3 + 11) + 302 ≤ M.2.2.2.2.2.1) : CallOk M MtX11_takeBest yX11_takeBest 1 := ⟨t_1780, h1, h2, ⟨by decide, by decide⟩, by decide +kernel, t_1⟩
abbrev MtX5_unitFractions : Mt := (cX5_unitFractions, 7, "ExactlySaid$Reckoner", (Option.some Jvm.ClassFile.FieldType.int), 6, 251, false)
set_option maxRecDepth 100000 in
set_option maxHeartbeats 4000000 in
theorem bX5_unitFractions_130 {X : Xt} {σf : St} {r : Int32} (hX1 : X.2.2.1 = σf) (hX2 : X.2.2.2 = .inl (some (.int r))) {k61 : St → Nat → Int32 → Nat → Nat → Int32 → Option (St × Int32)} (hk61 : ∀ (σ : St) (x0 : Nat) (x2 : Int32) (x3 : Nat) (x4 : Nat) (x5 : Int32), k61 σ x0 x2 x3 x4 x5 = some (σf, r) → G MtX5_unitFractions X σ 61 [(0, rv x0), (2, .int x2), (3, rv x3), (4, rv x4), (5, .int x5)] []) {σ : St} {x0 : Nat} {x2 : Int32} {x3 : Nat} {x4 : Nat} {x5 : Int32} (hf : fX5_unitFractions_130 k61 σ x0 x2 x3 x4 x5 = some (σf, r)) : G MtX5_unitFractions X σ 130 [(0, rv x0), (2, .int x2), (3, rv x3), (4, rv x4), (5, .int x5)] [] := by
  unfold fX5_unitFractions_130 at hf
  refine g_aload_n (j := 0) dX5_unitFractions_130 rfl rfl ?_
  refine g_aload_n (j := 2) dX5_unitFractions_131 rfl rfl ?_
  refine g_aload_n (j := 0) dX5_unitFractions_132 rfl rfl ?_
  obtain ⟨v1, ev1, hf⟩ := ob hf
  refine g_getF dX5_unitFractions_133 ev1 t_172 hin9 hc9 (by decide) rfl ?_
  refine g_iconst (v := 1) dX5_unitFractions_136 (by decide) ?_
  refine g_aload (j := 3) dX5_unitFractions_137 rfl ?_
  obtain ⟨_, h4, hf⟩ := ob hf
  obtain ⟨σ2, v3, eσ2, hf⟩ := cb_el hf
  refine g_callV_v dX5_unitFractions_139 (wX5_add _ eσ2) (okX5_add _ (by decide) (by decide)) (ckK_el h4) hc9 t_1049 t_1051 s_X5_add rfl (Nat.le_trans (cat_le _) (Nat.le_of_ble_eq_true rfl)) rfl ?_
  refine g_aload_n (j := 0) dX5_unitFractions_142 rfl rfl ?_
  obtain ⟨v5, ev5, hf⟩ := ob hf
  refine g_getF dX5_unitFractions_143 ev5 t_172 hin9 hc9 (by decide) rfl ?_
  obtain ⟨_, h8, hf⟩ := ob hf
  obtain ⟨σ6, v7, eσ6, hf⟩ := cb_el hf
  refine g_callVN_i dX5_unitFractions_146 (wX1_fits _ eσ6) (okX1_fits _ (by decide) (by decide)) (ckK_el h8) hc5 t_1070 t_1072 s_X1_fits rfl (Nat.le_trans (cat_le _) (Nat.le_of_ble_eq_true rfl)) rfl ?_
  refine g_if_eq (tgt := 160) dX5_unitFractions_149 (by decide) (fun c9 => ?_) (fun c9 => ?_)
  · rw [if_pos c9] at hf
    refine g_iconst (v := (-1)) dX5_unitFractions_160 (by decide) ?_
    exact g_iret dX5_unitFractions_161 rfl rfl hX2 hX1 hf
  · rw [if_neg c9] at hf
    refine g_aload (j := 3) dX5_unitFractions_152 rfl ?_
    obtain ⟨_, h12, hf⟩ := ob hf
    obtain ⟨σ10, v11, eσ10, hf⟩ := cb_el hf
    refine g_callVN_i dX5_unitFractions_154 (wX1_fits _ eσ10) (okX1_fits _ (by decide) (by decide)) (ckK_el h12) hc5 t_1070 t_1072 s_X1_fits rfl (Nat.le_trans (cat_le _) (Nat.le_of_ble_eq_true rfl)) rfl ?_
    refine g_if_ne (tgt := 162) dX5_unitFractions_157 (by decide) (fun c13 => ?_) (fun c13 => ?_)
    · rw [if_neg c13] at hf
      refine g_aload (j := 3) dX5_unitFractions_162 rfl ?_
      obtain ⟨v14, ev14, hf⟩ := ob hf
      refine g_getIN dX5_unitFractions_164 ev14 t_73 hin5 hc5 (by decide) rfl ?_
      refine g_if_ne (tgt := 175) dX5_unitFractions_167 (by decide) (fun c15 => ?_) (fun c15 => ?_)
      · rw [if_neg c15] at hf
        refine g_aload_n (j := 2) dX5_unitFractions_175 rfl rfl ?_
        refine g_astore (i := 6) (L' := [(6, rv x3), (0, rv x0), (2, .int x2), (3, rv x3), (4, rv x4), (5, .int x5)]) dX5_unitFractions_176 (Nat.le_of_ble_eq_true rfl) rfl ?_
        refine g_aload (j := 4) dX5_unitFractions_178 rfl ?_
        refine g_astore_n (i := 3) (L' := [(3, rv x4), (6, rv x3), (0, rv x0), (2, .int x2), (4, rv x4), (5, .int x5)]) dX5_unitFractions_180 rfl (Nat.le_of_ble_eq_true rfl) rfl ?_
        refine g_aload (j := 1) dX5_unitFractions_181 rfl ?_
        refine g_astore (i := 4) (L' := [(4, rv x3), (3, rv x4), (6, rv x3), (0, rv x0), (2, .int x2), (5, .int x5)]) dX5_unitFractions_183 (Nat.le_of_ble_eq_true rfl) (by simp [rv_cat]) ?_
        obtain ⟨v16, ev16, hf⟩ := nm_el hf
        refine g_iinc (L' := [(5, .int v16), (4, rv x3), (3, rv x4), (6, rv x3), (0, rv x0), (2, .int x2)]) (j := 5) (v := v16) dX5_unitFractions_185 rfl (by rw [ev16]; rfl) (Nat.le_of_ble_eq_true rfl) (by simp [rv_cat]) ?_
        refine g_goto (tgt := 61) dX5_unitFractions_188 (by decide) ?_
        refine g_sub (L' := [(0, rv x0), (2, .int x2), (3, rv x4), (4, rv x3), (5, .int v16)]) [4, 5, 2, 1, 0] rfl ?_
        exact hk61 _ _ _ _ _ _ hf
      · rw [if_pos c15] at hf
        refine g_iload (j := 4) dX5_unitFractions_170 rfl ?_
        refine g_iconst (v := 1) dX5_unitFractions_172 (by decide) ?_
        refine g_iadd dX5_unitFractions_173 ?_
        exact g_iret dX5_unitFractions_174 rfl rfl hX2 hX1 hf
    · rw [if_pos c13] at hf
      refine g_iconst (v := (-1)) dX5_unitFractions_160 (by decide) ?_
      exact g_iret dX5_unitFractions_161 rfl rfl hX2 hX1 hf

set_option maxRecDepth 100000 in
set_option maxHeartbeats 4000000 in
theorem bX5_unitFractions_113 {X : Xt} {σf : St} {r : Int32} (hX1 : X.2.2.1 = σf) (hX2 : X.2.2.2 = .inl (some (.int r))) {k61 : St → Nat → Int32 → Nat → Nat → Int32 → Option (St × Int32)} (hk61 : ∀ (σ : St) (x0 : Nat) (x2 : Int32) (x3 : Nat) (x4 : Nat) (x5 : Int32), k61 σ x0 x2 x3 x4 x5 = some (σf, r) → G MtX5_unitFractions X σ 61 [(0, rv x0), (2, .int x2), (3, rv x3), (4, rv x4), (5, .int x5)] []) {σ : St} {x0 : Nat} {x2 : Int32} {x3 : Nat} {x4 : Nat} {x5 : Int32} (hf : fX5_unitFractions_113 k61 σ x0 x2 x3 x4 x5 = some (σf, r)) : G MtX5_unitFractions X σ 113 [(0, rv x0), (2, .int x2), (3, rv x3), (4, rv x4), (5, .int x5)] [] := by
  unfold fX5_unitFractions_113 at hf
  refine g_iload (j := 4) dX5_unitFractions_113 rfl ?_
  refine g_iload_n (j := 1) dX5_unitFractions_115 rfl rfl ?_
  refine g_icmp_ne (tgt := 130) dX5_unitFractions_116 (by decide) (fun c1 => ?_) (fun c1 => ?_)
  · rw [if_neg c1] at hf
    exact bX5_unitFractions_130 hX1 hX2 hk61 hf
  · rw [if_pos c1] at hf
    refine g_aload_n (j := 0) dX5_unitFractions_119 rfl rfl ?_
    obtain ⟨v2, ev2, hf⟩ := ob hf
    refine g_getF dX5_unitFractions_120 ev2 t_175 hin9 hc9 (by decide) rfl ?_
    refine g_aload_n (j := 0) dX5_unitFractions_123 rfl rfl ?_
    obtain ⟨v3, ev3, hf⟩ := ob hf
    refine g_getF dX5_unitFractions_124 ev3 t_172 hin9 hc9 (by decide) rfl ?_
    obtain ⟨_, h6, hf⟩ := ob hf
    obtain ⟨σ4, v5, eσ4, hf⟩ := cb_el hf
    refine g_callVN_v dX5_unitFractions_127 (wX1_setTo _ eσ4) (okX1_setTo _ (by decide) (by decide)) (ckK_el h6) hc5 t_1044 t_1046 s_X1_setTo rfl (Nat.le_trans (cat_le _) (Nat.le_of_ble_eq_true rfl)) rfl ?_
    exact bX5_unitFractions_130 hX1 hX2 hk61 hf

set_option maxRecDepth 100000 in
set_option maxHeartbeats 4000000 in
theorem bX5_unitFractions_61 {X : Xt} {σf : St} {r : Int32} (hX1 : X.2.2.1 = σf) (hX2 : X.2.2.2 = .inl (some (.int r))) : ∀ (n : Nat) (σ : St) (x0 : Nat) (x2 : Int32) (x3 : Nat) (x4 : Nat) (x5 : Int32), fX5_unitFractions_61 n σ x0 x2 x3 x4 x5 = some (σf, r) → G MtX5_unitFractions X σ 61 [(0, rv x0), (2, .int x2), (3, rv x3), (4, rv x4), (5, .int x5)] [] := by
  intro n
  induction n with
  | zero => intro σ x0 x2 x3 x4 x5 hf; cases hf
  | succ n ih =>
    intro σ x0 x2 x3 x4 x5 hf
    rw [fX5_unitFractions_61] at hf
    refine g_iload (j := 4) dX5_unitFractions_61 rfl ?_
    refine g_bipush (v := 8) dX5_unitFractions_63 (by decide) ?_
    refine g_icmp_ge (tgt := 191) dX5_unitFractions_65 (by decide) (fun c1 => ?_) (fun c1 => ?_)
    · rw [if_pos c1] at hf
      refine g_iconst (v := (-1)) dX5_unitFractions_191 (by decide) ?_
      exact g_iret dX5_unitFractions_192 rfl rfl hX2 hX1 hf
    · rw [if_neg c1] at hf
      refine g_aload_n (j := 0) dX5_unitFractions_68 rfl rfl ?_
      refine g_aload_n (j := 2) dX5_unitFractions_69 rfl rfl ?_
      obtain ⟨v2, ev2, hf⟩ := ob hf
      refine g_getFN dX5_unitFractions_70 ev2 t_82 hin5 hc5 (by decide) rfl ?_
      refine g_aload_n (j := 2) dX5_unitFractions_73 rfl rfl ?_
      obtain ⟨v3, ev3, hf⟩ := ob hf
      refine g_getFN dX5_unitFractions_74 ev3 t_77 hin5 hc5 (by decide) rfl ?_
      refine g_aload_n (j := 0) dX5_unitFractions_77 rfl rfl ?_
      obtain ⟨v4, ev4, hf⟩ := ob hf
      refine g_getF dX5_unitFractions_78 ev4 t_172 hin9 hc9 (by decide) rfl ?_
      obtain ⟨v5, ev5, hf⟩ := ob hf
      refine g_getFN dX5_unitFractions_81 ev5 t_82 hin5 hc5 (by decide) rfl ?_
      refine g_aload_n (j := 0) dX5_unitFractions_84 rfl rfl ?_
      obtain ⟨v6, ev6, hf⟩ := ob hf
      refine g_getF dX5_unitFractions_85 ev6 t_161 hin9 hc9 (by decide) rfl ?_
      obtain ⟨_, h9, hf⟩ := ob hf
      obtain ⟨σ7, v8, eσ7, hf⟩ := cb_el hf
      refine g_callV_v dX5_unitFractions_88 (wX5_divide _ eσ7) (okX5_divide _ (by decide) (by decide)) (ckK_el h9) hc9 t_929 t_931 s_X5_divide rfl (Nat.le_trans (cat_le _) (Nat.le_of_ble_eq_true rfl)) rfl ?_
      refine g_aload_n (j := 0) dX5_unitFractions_91 rfl rfl ?_
      obtain ⟨v10, ev10, hf⟩ := ob hf
      refine g_getF dX5_unitFractions_92 ev10 t_161 hin9 hc9 (by decide) rfl ?_
      obtain ⟨_, h13, hf⟩ := ob hf
      obtain ⟨σ11, v12, eσ11, hf⟩ := cb_el hf
      refine g_callVN_i dX5_unitFractions_95 (wX3_isZero _ eσ11) (okX3_isZero _ (by decide) (by decide)) (ckK_el h13) hc7 t_1022 t_1024 s_X3_isZero rfl (Nat.le_trans (cat_le _) (Nat.le_of_ble_eq_true rfl)) rfl ?_
      refine g_if_ne (tgt := 113) dX5_unitFractions_98 (by decide) (fun c14 => ?_) (fun c14 => ?_)
      · rw [if_neg c14] at hf
        exact bX5_unitFractions_113 hX1 hX2 (fun σ x0 x2 x3 x4 x5 hf => ih σ x0 x2 x3 x4 x5 hf) hf
      · rw [if_pos c14] at hf
        refine g_aload_n (j := 0) dX5_unitFractions_101 rfl rfl ?_
        obtain ⟨v15, ev15, hf⟩ := ob hf
        refine g_getF dX5_unitFractions_102 ev15 t_172 hin9 hc9 (by decide) rfl ?_
        obtain ⟨v16, ev16, hf⟩ := ob hf
        refine g_getFN dX5_unitFractions_105 ev16 t_82 hin5 hc5 (by decide) rfl ?_
        refine g_iconst (v := 1) dX5_unitFractions_108 (by decide) ?_
        refine g_iconst (v := 1) dX5_unitFractions_109 (by decide) ?_
        obtain ⟨_, h19, hf⟩ := ob hf
        obtain ⟨σ17, v18, eσ17, hf⟩ := cb_el hf
        refine g_callVN_v dX5_unitFractions_110 (wX3_raise _ eσ17) (okX3_raise _ (by decide) (by decide)) (ckK_el h19) hc7 t_896 t_898 s_X3_raise rfl (Nat.le_trans (cat_le _) (Nat.le_of_ble_eq_true rfl)) rfl ?_
        exact bX5_unitFractions_113 hX1 hX2 (fun σ x0 x2 x3 x4 x5 hf => ih σ x0 x2 x3 x4 x5 hf) hf

set_option maxRecDepth 100000 in
set_option maxHeartbeats 4000000 in
theorem wX5_unitFractions (l : Launch) {σ σf : St} {x0 : Nat} {x1 : Nat} {x2 : Int32} {r : Int32} (hf : fX5_unitFractions σ x0 x1 x2 = some (σf, r)) : Con MtX5_unitFractions yX5_unitFractions l σ [rv x0, rv x1, .int x2] σf (some (.int r)) := by
  refine Con.of (by decide +kernel) rfl (fun h => absurd (show false = true from h) (by decide)) (by simp only [sl_n, sl_r, sl_i, sl_l]; exact Nat.le_of_ble_eq_true rfl) ?_
  rw [show lv_args 0 [rv x0, rv x1, .int x2] = [(0, rv x0), (1, rv x1), (2, .int x2)] by simp only [la_n, la_r, la_i, la_l] <;> rfl]
  have hX1 : ((l, σ, σf, .inl (some (.int r))) : Xt).2.2.1 = σf := rfl
  have hX2 : ((l, σ, σf, .inl (some (.int r))) : Xt).2.2.2 = .inl (some (.int r)) := rfl
  unfold fX5_unitFractions at hf
  refine g_aload_n (j := 1) dX5_unitFractions_0 rfl rfl ?_
  obtain ⟨v1, ev1, hf⟩ := ob hf
  refine g_getIN dX5_unitFractions_1 ev1 t_73 hin5 hc5 (by decide) rfl ?_
  refine g_if_le (tgt := 21) dX5_unitFractions_4 (by decide) (fun c2 => ?_) (fun c2 => ?_)
  · rw [if_pos c2] at hf
    refine g_iconst (v := (-1)) dX5_unitFractions_21 (by decide) ?_
    exact g_iret dX5_unitFractions_22 rfl rfl hX2 hX1 hf
  · rw [if_neg c2] at hf
    refine g_aload_n (j := 1) dX5_unitFractions_7 rfl rfl ?_
    obtain ⟨v3, ev3, hf⟩ := ob hf
    refine g_getFN dX5_unitFractions_8 ev3 t_77 hin5 hc5 (by decide) rfl ?_
    refine g_aload_n (j := 1) dX5_unitFractions_11 rfl rfl ?_
    obtain ⟨v4, ev4, hf⟩ := ob hf
    refine g_getFN dX5_unitFractions_12 ev4 t_82 hin5 hc5 (by decide) rfl ?_
    obtain ⟨_, h7, hf⟩ := ob hf
    obtain ⟨σ5, v6, eσ5, hf⟩ := cb_el hf
    refine g_callVN_i dX5_unitFractions_15 (wX3_against _ eσ5) (okX3_against _ (by decide) (by decide)) (ckK_el h7) hc7 t_908 t_910 s_X3_against rfl (Nat.le_trans (cat_le _) (Nat.le_of_ble_eq_true rfl)) rfl ?_
    refine g_if_lt (tgt := 23) dX5_unitFractions_18 (by decide) (fun c8 => ?_) (fun c8 => ?_)
    · rw [if_pos c8] at hf
      refine g_aload_n (j := 0) dX5_unitFractions_23 rfl rfl ?_
      obtain ⟨v9, ev9, hf⟩ := ob hf
      refine g_getF dX5_unitFractions_24 ev9 t_173 hin9 hc9 (by decide) rfl ?_
      refine g_astore_n (i := 3) (L' := [(3, rv v9), (0, rv x0), (1, rv x1), (2, .int x2)]) dX5_unitFractions_27 rfl (Nat.le_of_ble_eq_true rfl) rfl ?_
      refine g_aload_n (j := 1) dX5_unitFractions_28 rfl rfl ?_
      obtain ⟨v10, ev10, hf⟩ := ob hf
      refine g_getF dX5_unitFractions_29 ev10 t_174 hin9 hc9 (by decide) rfl ?_
      refine g_astore (i := 4) (L' := [(4, rv v10), (3, rv v9), (0, rv x0), (1, rv x1), (2, .int x2)]) dX5_unitFractions_32 (Nat.le_of_ble_eq_true rfl) (by simp [rv_cat]) ?_
      refine g_aload_n (j := 1) dX5_unitFractions_34 rfl rfl ?_
      refine g_aload_n (j := 3) dX5_unitFractions_35 rfl rfl ?_
      obtain ⟨_, h13, hf⟩ := ob hf
      obtain ⟨σ11, v12, eσ11, hf⟩ := cb_el hf
      refine g_callVN_v dX5_unitFractions_36 (wX1_setTo _ eσ11) (okX1_setTo _ (by decide) (by decide)) (ckK_el h13) hc5 t_1044 t_1046 s_X1_setTo rfl (Nat.le_trans (cat_le _) (Nat.le_of_ble_eq_true rfl)) rfl ?_
      refine g_aload_n (j := 2) dX5_unitFractions_39 rfl rfl ?_
      obtain ⟨v14, ev14, hf⟩ := ob hf
      refine g_getF dX5_unitFractions_40 ev14 t_172 hin9 hc9 (by decide) rfl ?_
      obtain ⟨v15, ev15, hf⟩ := ob hf
      refine g_getFN dX5_unitFractions_43 ev15 t_77 hin5 hc5 (by decide) rfl ?_
      refine g_lconst (v := 1) dX5_unitFractions_46 (by decide) ?_
      obtain ⟨_, h18, hf⟩ := ob hf
      obtain ⟨σ16, v17, eσ16, hf⟩ := cb_el hf
      refine g_callVN_v dX5_unitFractions_47 (wX3_setSmall _ eσ16) (okX3_setSmall _ (by decide) (by decide)) (ckK_el h18) hc7 t_895 t_69 s_X3_setSmall rfl (Nat.le_trans (cat_le _) (Nat.le_of_ble_eq_true rfl)) rfl ?_
      refine g_aload_n (j := 2) dX5_unitFractions_50 rfl rfl ?_
      obtain ⟨v19, ev19, hf⟩ := ob hf
      refine g_getF dX5_unitFractions_51 ev19 t_172 hin9 hc9 (by decide) rfl ?_
      refine g_iconst (v := 1) dX5_unitFractions_54 (by decide) ?_
      obtain ⟨σ20, eσ20, hf⟩ := ob hf
      refine g_putI dX5_unitFractions_55 eσ20 (Or.inr ⟨_, t_73⟩) hin5 hc5 (by decide) hty5 hnm5 (Or.inl rfl) rfl rfl rfl ?_
      refine g_iconst (v := 0) dX5_unitFractions_58 (by decide) ?_
      refine g_istore (i := 5) (L' := [(5, .int 0), (4, rv v10), (3, rv v9), (0, rv x0), (1, rv x1), (2, .int x2)]) dX5_unitFractions_59 (Nat.le_of_ble_eq_true rfl) (by simp [rv_cat]) ?_
      refine g_sub (L' := [(0, rv x0), (2, .int x2), (3, rv v9), (4, rv v10), (5, .int 0)]) [3, 5, 2, 1, 0] rfl ?_
      exact bX5_unitFractions_61 hX1 hX2 FU _ _ _ _ _ _ hf
    · rw [if_neg c8] at hf
      refine g_iconst (v := (-1)) dX5_unitFractions_21 (by decide) ?_
      exact g_iret dX5_unitFractions_22 rfl rfl hX2 hX1 hf

theorem okX5_unitFractions (M : Mt) (h1 : 6 + 1 ≤ M.2.2.2.2.1) (h2 : 8 + (7 + 11) + 251 ≤ M.2.2.2.2.2.1) : CallOk M MtX5_unitFractions yX5_unitFractions 2 := ⟨t_1043, h1, h2, ⟨by decide, by decide⟩, by decide +kernel, t_9⟩
abbrev MtX11_units : Mt := (cX11_units, 1, "ExactlySaid", (Option.some Jvm.ClassFile.FieldType.int), 7, 277, false)
set_option maxRecDepth 100000 in
set_option maxHeartbeats 4000000 in
theorem wX11_units (l : Launch) {σ σf : St} {x0 : Nat} {r : Int32} (hf : fX11_units σ x0 = some (σf, r)) : Con MtX11_units yX11_units l σ [rv x0] σf (some (.int r)) := by
  refine Con.of (by decide +kernel) rfl (fun h => absurd (show false = true from h) (by decide)) (by simp only [sl_n, sl_r, sl_i, sl_l]; exact Nat.le_of_ble_eq_true rfl) ?_
  rw [show lv_args 0 [rv x0] = [(0, rv x0)] by simp only [la_n, la_r, la_i, la_l] <;> rfl]
  have hX1 : ((l, σ, σf, .inl (some (.int r))) : Xt).2.2.1 = σf := rfl
  have hX2 : ((l, σ, σf, .inl (some (.int r))) : Xt).2.2.2 = .inl (some (.int r)) := rfl
  unfold fX11_units at hf
  refine g_aload_n (j := 0) dX11_units_0 rfl rfl ?_
  obtain ⟨v1, ev1, hf⟩ := ob hf
  refine g_getF dX11_units_1 ev1 t_391 hin15 hc15 (by decide) rfl ?_
  refine g_aload_n (j := 0) dX11_units_4 rfl rfl ?_
  obtain ⟨v2, ev2, hf⟩ := ob hf
  refine g_getF dX11_units_5 ev2 t_383 hin15 hc15 (by decide) rfl ?_
  refine g_iconst (v := (-1)) dX11_units_8 (by decide) ?_
  obtain ⟨_, h5, hf⟩ := ob hf
  obtain ⟨σ3, v4, eσ3, hf⟩ := cb_el hf
  refine g_callVN_i dX11_units_9 (wX5_unitFractions _ eσ3) (okX5_unitFractions _ (by decide) (by decide)) (ckK_el h5) hc9 t_1040 t_1042 s_X5_unitFractions rfl (Nat.le_trans (cat_le _) (Nat.le_of_ble_eq_true rfl)) rfl ?_
  exact g_iret dX11_units_12 rfl rfl hX2 hX1 hf

theorem okX11_units (M : Mt) (h1 : 7 + 1 ≤ M.2.2.2.2.1) (h2 : 8 + (1 + 11) + 277 ≤ M.2.2.2.2.2.1) : CallOk M MtX11_units yX11_units 0 := ⟨t_1039, h1, h2, ⟨by decide, by decide⟩, by decide +kernel, t_1⟩
abbrev MtX11_takeUnit : Mt := (cX11_takeUnit, 2, "ExactlySaid", (Option.some Jvm.ClassFile.FieldType.int), 8, 277, false)
set_option maxRecDepth 100000 in
set_option maxHeartbeats 4000000 in
theorem bX11_takeUnit_20 {X : Xt} {σf : St} {r : (String ⊕ Int32)} (hX1 : X.2.2.1 = σf) (hX2 : X.2.2.2 = xo (ocI r)) {σ : St} (hf : fX11_takeUnit_20 σ  = some (σf, r)) : G MtX11_takeUnit X σ 20 [] [] := by
  unfold fX11_takeUnit_20 at hf
  cases hf
  exact g_throw (cls := "java/lang/IndexOutOfBoundsException") (names := ["java/lang/RuntimeException", "java/lang/Exception"]) dX11_takeUnit_20 dX11_takeUnit_23 dX11_takeUnit_24 dX11_takeUnit_27 (by decide +kernel) (by decide +kernel) thw_147 thg_147 (by decide) (by decide) hX2 hX1 rfl

set_option maxRecDepth 100000 in
set_option maxHeartbeats 4000000 in
theorem wX11_takeUnit (l : Launch) (hst : l.stackTraces = false) {σ σf : St} {x0 : Nat} {x1 : Int32} {r : (String ⊕ Int32)} (hf : fX11_takeUnit σ x0 x1 = some (σf, r)) : ConT MtX11_takeUnit yX11_takeUnit l σ [rv x0, .int x1] σf (ocI r) := by
  refine ConT.of hst (by decide +kernel) rfl (fun h => absurd (show false = true from h) (by decide)) (by simp only [sl_n, sl_r, sl_i, sl_l]; exact Nat.le_of_ble_eq_true rfl) ?_
  rw [show lv_args 0 [rv x0, .int x1] = [(0, rv x0), (1, .int x1)] by simp only [la_n, la_r, la_i, la_l] <;> rfl]
  have hX1 : ((l, σ, σf, xo (ocI r)) : Xt).2.2.1 = σf := rfl
  have hX2 : ((l, σ, σf, xo (ocI r)) : Xt).2.2.2 = xo (ocI r) := rfl
  generalize ((l, σ, σf, xo (ocI r)) : Xt) = X at hX1 hX2 ⊢
  unfold fX11_takeUnit at hf
  refine g_iload_n (j := 1) dX11_takeUnit_0 rfl rfl ?_
  refine g_if_lt (tgt := 20) dX11_takeUnit_1 (by decide) (fun c1 => ?_) (fun c1 => ?_)
  · rw [if_pos c1] at hf
    refine g_sub (L' := []) [] rfl ?_
    exact bX11_takeUnit_20 hX1 hX2 hf
  · rw [if_neg c1] at hf
    refine g_iload_n (j := 1) dX11_takeUnit_4 rfl rfl ?_
    refine g_aload_n (j := 0) dX11_takeUnit_5 rfl rfl ?_
    obtain ⟨v2, ev2, hf⟩ := ob hf
    refine g_getF dX11_takeUnit_6 ev2 t_391 hin15 hc15 (by decide) rfl ?_
    refine g_aload_n (j := 0) dX11_takeUnit_9 rfl rfl ?_
    obtain ⟨v3, ev3, hf⟩ := ob hf
    refine g_getF dX11_takeUnit_10 ev3 t_383 hin15 hc15 (by decide) rfl ?_
    refine g_iload_n (j := 1) dX11_takeUnit_13 rfl rfl ?_
    obtain ⟨_, h6, hf⟩ := ob hf
    obtain ⟨σ4, v5, eσ4, hf⟩ := cb_el hf
    refine g_callVN_i dX11_takeUnit_14 (wX5_unitFractions _ eσ4) (okX5_unitFractions _ (by decide) (by decide)) (ckK_el h6) hc9 t_1040 t_1042 s_X5_unitFractions rfl (Nat.le_trans (cat_le _) (Nat.le_of_ble_eq_true rfl)) rfl ?_
    refine g_icmp_lt (tgt := 28) dX11_takeUnit_17 (by decide) (fun c7 => ?_) (fun c7 => ?_)
    · rw [if_pos c7] at hf
      refine g_aload_n (j := 0) dX11_takeUnit_28 rfl rfl ?_
      obtain ⟨σ8, eσ8, hf⟩ := nm_el hf
      obtain ⟨a9, ea9, hf⟩ := nm_el hf
      refine g_new9 dX11_takeUnit_29 hc5 hin5 hty5 hdf5 t_44 t_45 t_2 eσ8 ea9 ?_
      refine g_dup dX11_takeUnit_32 (rv_cat _) ?_
      refine g_aload_n (j := 0) dX11_takeUnit_33 rfl rfl ?_
      obtain ⟨v10, ev10, hf⟩ := ob hf
      refine g_getF dX11_takeUnit_34 ev10 t_391 hin15 hc15 (by decide) rfl ?_
      obtain ⟨v11, ev11, hf⟩ := ob hf
      refine g_getFN dX11_takeUnit_37 ev11 t_176 hin9 hc9 (by decide) rfl ?_
      obtain ⟨_, h14, hf⟩ := ob hf
      obtain ⟨σ12, v13, eσ12, hf⟩ := cb_el hf
      refine g_callIN dX11_takeUnit_40 (wX1_init_ _ eσ12) (okX1_init_ _ (by decide) (by decide)) rfl (by rw [ckK_el h14]; decide) rfl t_1544 t_1545 rfl (Nat.le_trans (cat_le _) (Nat.le_of_ble_eq_true rfl)) rfl ?_
      obtain ⟨σ15, eσ15, hf⟩ := ob hf
      refine g_putF dX11_takeUnit_43 eσ15 (Or.inl t_383) hin15 hc15 (by decide) hty15 hnm15 (Or.inl rfl) rfl ?_
      refine g_aload_n (j := 0) dX11_takeUnit_46 rfl rfl ?_
      obtain ⟨v16, ev16, hf⟩ := ob hf
      refine g_getF dX11_takeUnit_47 ev16 t_383 hin15 hc15 (by decide) rfl ?_
      obtain ⟨v17, ev17, hf⟩ := ob hf
      refine g_getFN dX11_takeUnit_50 ev17 t_85 hin5 hc5 (by decide) rfl ?_
      obtain ⟨_, h20, hf⟩ := ob hf
      obtain ⟨σ18, v19, eσ18, hf⟩ := cb_el hf
      refine g_callVN_i dX11_takeUnit_53 (wX3_digitCount _ eσ18) (okX3_digitCount _ (by decide) (by decide)) (ckK_el h20) hc7 t_461 t_463 s_X3_digitCount rfl (Nat.le_trans (cat_le _) (Nat.le_of_ble_eq_true rfl)) rfl ?_
      cases hf
      exact g_iret dX11_takeUnit_56 rfl rfl hX2 hX1 rfl
    · rw [if_neg c7] at hf
      refine g_sub (L' := []) [] rfl ?_
      exact bX11_takeUnit_20 hX1 hX2 hf

theorem okX11_takeUnit (M : Mt) (h1 : 8 + 1 ≤ M.2.2.2.2.1) (h2 : 8 + (2 + 11) + 277 ≤ M.2.2.2.2.2.1) : CallOk M MtX11_takeUnit yX11_takeUnit 1 := ⟨t_1795, h1, h2, ⟨by decide, by decide⟩, by decide +kernel, t_1⟩
abbrev MtX11_isRow : Mt := (cX11_isRow, 2, "ExactlySaid", (Option.some Jvm.ClassFile.FieldType.boolean), 2, 104, false)
set_option maxRecDepth 100000 in
set_option maxHeartbeats 4000000 in
theorem wX11_isRow (l : Launch) {σ σf : St} {x0 : Nat} {x1 : Int32} {r : Int32} (hf : fX11_isRow σ x0 x1 = some (σf, r)) : Con MtX11_isRow yX11_isRow l σ [rv x0, .int x1] σf (some (.int r)) := by
  refine Con.of (by decide +kernel) rfl (fun h => absurd (show false = true from h) (by decide)) (by simp only [sl_n, sl_r, sl_i, sl_l]; exact Nat.le_of_ble_eq_true rfl) ?_
  rw [show lv_args 0 [rv x0, .int x1] = [(0, rv x0), (1, .int x1)] by simp only [la_n, la_r, la_i, la_l] <;> rfl]
  have hX1 : ((l, σ, σf, .inl (some (.int r))) : Xt).2.2.1 = σf := rfl
  have hX2 : ((l, σ, σf, .inl (some (.int r))) : Xt).2.2.2 = .inl (some (.int r)) := rfl
  unfold fX11_isRow at hf
  refine g_iload_n (j := 1) dX11_isRow_0 rfl rfl ?_
  refine g_if_lt (tgt := 20) dX11_isRow_1 (by decide) (fun c1 => ?_) (fun c1 => ?_)
  · rw [if_pos c1] at hf
    refine g_iconst (v := 0) dX11_isRow_20 (by decide) ?_
    exact g_iret dX11_isRow_21 rfl (by decide) hX2 hX1 hf
  · rw [if_neg c1] at hf
    refine g_iload_n (j := 1) dX11_isRow_4 rfl rfl ?_
    refine g_aload_n (j := 0) dX11_isRow_5 rfl rfl ?_
    obtain ⟨_, h4, hf⟩ := ob hf
    obtain ⟨σ2, a3, eσ2, hf⟩ := cb_el hf
    refine g_callV_q dX11_isRow_6 (wX11_present _ eσ2) (okX11_present _ (by decide) (by decide)) (ckK_el h4) hc15 t_959 t_961 s_X11_present rfl (Nat.le_trans (cat_le _) (Nat.le_of_ble_eq_true rfl)) rfl ?_
    obtain ⟨v5, ev5, hf⟩ := ob hf
    refine g_getFN dX11_isRow_9 ev5 t_369 hin11 hc11 (by decide) rfl ?_
    obtain ⟨v6, ev6, hf⟩ := ob hf
    refine g_alen dX11_isRow_12 ev6 ?_
    refine g_icmp_ge (tgt := 20) dX11_isRow_13 (by decide) (fun c7 => ?_) (fun c7 => ?_)
    · rw [if_pos c7] at hf
      refine g_iconst (v := 0) dX11_isRow_20 (by decide) ?_
      exact g_iret dX11_isRow_21 rfl (by decide) hX2 hX1 hf
    · rw [if_neg c7] at hf
      refine g_iconst (v := 1) dX11_isRow_16 (by decide) ?_
      refine g_goto (tgt := 21) dX11_isRow_17 (by decide) ?_
      exact g_iret dX11_isRow_21 rfl (by decide) hX2 hX1 hf

theorem okX11_isRow (M : Mt) (h1 : 2 + 1 ≤ M.2.2.2.2.1) (h2 : 8 + (2 + 11) + 104 ≤ M.2.2.2.2.2.1) : CallOk M MtX11_isRow yX11_isRow 1 := ⟨t_1806, h1, h2, ⟨by decide, by decide⟩, by decide +kernel, t_1⟩
abbrev MtX5_countBelow : Mt := (cX5_countBelow, 4, "ExactlySaid$Reckoner", (Option.some Jvm.ClassFile.FieldType.int), 4, 153, false)
set_option maxRecDepth 100000 in
set_option maxHeartbeats 4000000 in
theorem bX5_countBelow_2 {X : Xt} {σf : St} {r : Int32} (hX1 : X.2.2.1 = σf) (hX2 : X.2.2.2 = .inl (some (.int r))) : ∀ (n : Nat) (σ : St) (x0 : Nat) (x1 : Nat) (x2 : Nat) (x3 : Int32), fX5_countBelow_2 n σ x0 x1 x2 x3 = some (σf, r) → G MtX5_countBelow X σ 2 [(0, rv x0), (1, rv x1), (2, rv x2), (3, .int x3)] [] := by
  intro n
  induction n with
  | zero => intro σ x0 x1 x2 x3 hf; cases hf
  | succ n ih =>
    intro σ x0 x1 x2 x3 hf
    rw [fX5_countBelow_2] at hf
    refine g_iload_n (j := 3) dX5_countBelow_2 rfl rfl ?_
    refine g_aload_n (j := 1) dX5_countBelow_3 rfl rfl ?_
    obtain ⟨v1, ev1, hf⟩ := ob hf
    refine g_getFN dX5_countBelow_4 ev1 t_361 hin10 hc10 (by decide) rfl ?_
    obtain ⟨v2, ev2, hf⟩ := ob hf
    refine g_alen dX5_countBelow_7 ev2 ?_
    refine g_icmp_ge (tgt := 31) dX5_countBelow_8 (by decide) (fun c3 => ?_) (fun c3 => ?_)
    · rw [if_pos c3] at hf
      refine g_iload_n (j := 3) dX5_countBelow_31 rfl rfl ?_
      exact g_iret dX5_countBelow_32 rfl rfl hX2 hX1 hf
    · rw [if_neg c3] at hf
      refine g_aload_n (j := 0) dX5_countBelow_11 rfl rfl ?_
      refine g_aload_n (j := 1) dX5_countBelow_12 rfl rfl ?_
      obtain ⟨v4, ev4, hf⟩ := ob hf
      refine g_getFN dX5_countBelow_13 ev4 t_361 hin10 hc10 (by decide) rfl ?_
      refine g_iload_n (j := 3) dX5_countBelow_16 rfl rfl ?_
      obtain ⟨v5, ev5, hf⟩ := ob hf
      refine g_aald dX5_countBelow_17 (by decide) rfl ev5 ?_
      refine g_aload_n (j := 2) dX5_countBelow_18 rfl rfl ?_
      obtain ⟨_, h8, hf⟩ := ob hf
      obtain ⟨σ6, v7, eσ6, hf⟩ := cb_el hf
      refine g_callV_i dX5_countBelow_19 (wX5_order _ eσ6) (okX5_order _ (by decide) (by decide)) (ckK_el h8) hc9 t_1811 t_1212 s_X5_order rfl (Nat.le_trans (cat_le _) (Nat.le_of_ble_eq_true rfl)) rfl ?_
      refine g_if_ge (tgt := 31) dX5_countBelow_22 (by decide) (fun c9 => ?_) (fun c9 => ?_)
      · rw [if_pos c9] at hf
        refine g_iload_n (j := 3) dX5_countBelow_31 rfl rfl ?_
        exact g_iret dX5_countBelow_32 rfl rfl hX2 hX1 hf
      · rw [if_neg c9] at hf
        obtain ⟨v10, ev10, hf⟩ := nm_el hf
        refine g_iinc (L' := [(3, .int v10), (0, rv x0), (1, rv x1), (2, rv x2)]) (j := 3) (v := v10) dX5_countBelow_25 rfl (by rw [ev10]; rfl) (Nat.le_of_ble_eq_true rfl) (by simp [rv_cat]) ?_
        refine g_goto (tgt := 2) dX5_countBelow_28 (by decide) ?_
        refine g_sub (L' := [(0, rv x0), (1, rv x1), (2, rv x2), (3, .int v10)]) [1, 2, 3, 0] rfl ?_
        exact ih _ _ _ _ _ hf

set_option maxRecDepth 100000 in
set_option maxHeartbeats 4000000 in
theorem wX5_countBelow (l : Launch) {σ σf : St} {x0 : Nat} {x1 : Nat} {x2 : Nat} {r : Int32} (hf : fX5_countBelow σ x0 x1 x2 = some (σf, r)) : Con MtX5_countBelow yX5_countBelow l σ [rv x0, rv x1, rv x2] σf (some (.int r)) := by
  refine Con.of (by decide +kernel) rfl (fun h => absurd (show false = true from h) (by decide)) (by simp only [sl_n, sl_r, sl_i, sl_l]; exact Nat.le_of_ble_eq_true rfl) ?_
  rw [show lv_args 0 [rv x0, rv x1, rv x2] = [(0, rv x0), (1, rv x1), (2, rv x2)] by simp only [la_n, la_r, la_i, la_l] <;> rfl]
  have hX1 : ((l, σ, σf, .inl (some (.int r))) : Xt).2.2.1 = σf := rfl
  have hX2 : ((l, σ, σf, .inl (some (.int r))) : Xt).2.2.2 = .inl (some (.int r)) := rfl
  unfold fX5_countBelow at hf
  refine g_iconst (v := 0) dX5_countBelow_0 (by decide) ?_
  refine g_istore_n (i := 3) (L' := [(3, .int 0), (0, rv x0), (1, rv x1), (2, rv x2)]) dX5_countBelow_1 rfl (Nat.le_of_ble_eq_true rfl) (by simp [rv_cat]) ?_
  refine g_sub (L' := [(0, rv x0), (1, rv x1), (2, rv x2), (3, .int 0)]) [1, 2, 3, 0] rfl ?_
  exact bX5_countBelow_2 hX1 hX2 FU _ _ _ _ _ hf

theorem okX5_countBelow (M : Mt) (h1 : 4 + 1 ≤ M.2.2.2.2.1) (h2 : 8 + (4 + 11) + 153 ≤ M.2.2.2.2.2.1) : CallOk M MtX5_countBelow yX5_countBelow 2 := ⟨t_1810, h1, h2, ⟨by decide, by decide⟩, by decide +kernel, t_9⟩
abbrev MtX6_with : Mt := (cX6_with, 6, "ExactlySaid$Row", (Option.some (Jvm.ClassFile.FieldType.object "ExactlySaid$Row")), 2, 105, false)
set_option maxRecDepth 100000 in
set_option maxHeartbeats 4000000 in
theorem bX6_with_78 {X : Xt} {σf : St} {r : Nat} (hX1 : X.2.2.1 = σf) (hX2 : X.2.2.2 = .inl (some (rv r))) {k18 : St → Nat → Nat → Int32 → Nat → Int32 → Option (St × Nat)} (hk18 : ∀ (σ : St) (x0 : Nat) (x1 : Nat) (x2 : Int32) (x3 : Nat) (x4 : Int32), k18 σ x0 x1 x2 x3 x4 = some (σf, r) → G MtX6_with X σ 18 [(0, rv x0), (1, rv x1), (2, .int x2), (3, rv x3), (4, .int x4)] []) {σ : St} {x0 : Nat} {x1 : Nat} {x2 : Int32} {x3 : Nat} {x4 : Int32} {y0 : Nat} {y1 : Int32} {y2 : Nat} (hf : fX6_with_78 k18 σ x0 x1 x2 x3 x4 y0 y1 y2 = some (σf, r)) : G MtX6_with X σ 78 [(0, rv x0), (1, rv x1), (2, .int x2), (3, rv x3), (4, .int x4)] [rv y2, .int y1, rv y0] := by
  unfold fX6_with_78 at hf
  obtain ⟨σ1, eσ1, hf⟩ := ob hf
  refine g_aast dX6_with_78 (by decide) rfl hc5 eσ1 ?_
  obtain ⟨v2, ev2, hf⟩ := nm_el hf
  refine g_iinc (L' := [(4, .int v2), (0, rv x0), (1, rv x1), (2, .int x2), (3, rv x3)]) (j := 4) (v := v2) dX6_with_79 rfl (by rw [ev2]; rfl) (Nat.le_of_ble_eq_true rfl) (by simp [rv_cat]) ?_
  refine g_goto (tgt := 18) dX6_with_82 (by decide) ?_
  refine g_sub (L' := [(0, rv x0), (1, rv x1), (2, .int x2), (3, rv x3), (4, .int v2)]) [1, 2, 3, 4, 0] rfl ?_
  exact hk18 _ _ _ _ _ _ hf

set_option maxRecDepth 100000 in
set_option maxHeartbeats 4000000 in
theorem bX6_with_67 {X : Xt} {σf : St} {r : Nat} (hX1 : X.2.2.1 = σf) (hX2 : X.2.2.2 = .inl (some (rv r))) {k18 : St → Nat → Nat → Int32 → Nat → Int32 → Option (St × Nat)} (hk18 : ∀ (σ : St) (x0 : Nat) (x1 : Nat) (x2 : Int32) (x3 : Nat) (x4 : Int32), k18 σ x0 x1 x2 x3 x4 = some (σf, r) → G MtX6_with X σ 18 [(0, rv x0), (1, rv x1), (2, .int x2), (3, rv x3), (4, .int x4)] []) {σ : St} {x0 : Nat} {x1 : Nat} {x2 : Int32} {x3 : Nat} {x4 : Int32} {y0 : Nat} {y1 : Int32} (hf : fX6_with_67 k18 σ x0 x1 x2 x3 x4 y0 y1 = some (σf, r)) : G MtX6_with X σ 67 [(0, rv x0), (1, rv x1), (2, .int x2), (3, rv x3), (4, .int x4)] [.int y1, rv y0] := by
  unfold fX6_with_67 at hf
  refine g_aload_n (j := 1) dX6_with_67 rfl rfl ?_
  refine g_goto (tgt := 78) dX6_with_68 (by decide) ?_
  exact bX6_with_78 hX1 hX2 hk18 hf

set_option maxRecDepth 100000 in
set_option maxHeartbeats 4000000 in
theorem bX6_with_43 {X : Xt} {σf : St} {r : Nat} (hX1 : X.2.2.1 = σf) (hX2 : X.2.2.2 = .inl (some (rv r))) {k18 : St → Nat → Nat → Int32 → Nat → Int32 → Option (St × Nat)} (hk18 : ∀ (σ : St) (x0 : Nat) (x1 : Nat) (x2 : Int32) (x3 : Nat) (x4 : Int32), k18 σ x0 x1 x2 x3 x4 = some (σf, r) → G MtX6_with X σ 18 [(0, rv x0), (1, rv x1), (2, .int x2), (3, rv x3), (4, .int x4)] []) {σ : St} {x0 : Nat} {x1 : Nat} {x2 : Int32} {x3 : Nat} {x4 : Int32} {y0 : Int32} (hf : fX6_with_43 k18 σ x0 x1 x2 x3 x4 y0 = some (σf, r)) : G MtX6_with X σ 43 [(0, rv x0), (1, rv x1), (2, .int x2), (3, rv x3), (4, .int x4)] [.int y0] := by
  unfold fX6_with_43 at hf
  refine g_istore (i := 5) (L' := [(5, .int y0), (0, rv x0), (1, rv x1), (2, .int x2), (3, rv x3), (4, .int x4)]) dX6_with_43 (Nat.le_of_ble_eq_true rfl) rfl ?_
  refine g_aload_n (j := 4) dX6_with_45 rfl rfl ?_
  obtain ⟨v1, ev1, hf⟩ := ob hf
  refine g_getF dX6_with_46 ev1 t_360 hin10 hc10 (by decide) rfl ?_
  refine g_iload (j := 5) dX6_with_49 rfl ?_
  refine g_iload (j := 5) dX6_with_51 rfl ?_
  refine g_iload_n (j := 3) dX6_with_53 rfl rfl ?_
  refine g_icmp_eq (tgt := 67) dX6_with_54 (by decide) (fun c2 => ?_) (fun c2 => ?_)
  · rw [if_pos c2] at hf
    refine g_sub (L' := [(0, rv x0), (1, rv x1), (2, .int x2), (3, rv x3), (4, .int x4)]) [1, 2, 3, 4, 5] rfl ?_
    exact bX6_with_67 hX1 hX2 hk18 hf
  · rw [if_neg c2] at hf
    refine g_iload (j := 0) dX6_with_57 rfl ?_
    refine g_aload_n (j := 1) dX6_with_59 rfl rfl ?_
    obtain ⟨v3, ev3, hf⟩ := ob hf
    refine g_getF dX6_with_60 ev3 t_360 hin10 hc10 (by decide) rfl ?_
    obtain ⟨v4, ev4, hf⟩ := ob hf
    refine g_alen dX6_with_63 ev4 ?_
    refine g_icmp_lt (tgt := 71) dX6_with_64 (by decide) (fun c5 => ?_) (fun c5 => ?_)
    · rw [if_pos c5] at hf
      refine g_aload_n (j := 1) dX6_with_71 rfl rfl ?_
      obtain ⟨v6, ev6, hf⟩ := ob hf
      refine g_getF dX6_with_72 ev6 t_360 hin10 hc10 (by decide) rfl ?_
      refine g_iload (j := 0) dX6_with_75 rfl ?_
      obtain ⟨v7, ev7, hf⟩ := ob hf
      refine g_aald dX6_with_77 (by decide) rfl ev7 ?_
      refine g_sub (L' := [(0, rv x0), (1, rv x1), (2, .int x2), (3, rv x3), (4, .int x4)]) [1, 2, 3, 4, 5] rfl ?_
      exact bX6_with_78 hX1 hX2 hk18 hf
    · rw [if_neg c5] at hf
      refine g_sub (L' := [(0, rv x0), (1, rv x1), (2, .int x2), (3, rv x3), (4, .int x4)]) [1, 2, 3, 4, 5] rfl ?_
      exact bX6_with_67 hX1 hX2 hk18 hf

set_option maxRecDepth 100000 in
set_option maxHeartbeats 4000000 in
theorem bX6_with_18 {X : Xt} {σf : St} {r : Nat} (hX1 : X.2.2.1 = σf) (hX2 : X.2.2.2 = .inl (some (rv r))) : ∀ (n : Nat) (σ : St) (x0 : Nat) (x1 : Nat) (x2 : Int32) (x3 : Nat) (x4 : Int32), fX6_with_18 n σ x0 x1 x2 x3 x4 = some (σf, r) → G MtX6_with X σ 18 [(0, rv x0), (1, rv x1), (2, .int x2), (3, rv x3), (4, .int x4)] [] := by
  intro n
  induction n with
  | zero => intro σ x0 x1 x2 x3 x4 hf; cases hf
  | succ n ih =>
    intro σ x0 x1 x2 x3 x4 hf
    rw [fX6_with_18] at hf
    refine g_iload (j := 4) dX6_with_18 rfl ?_
    refine g_aload_n (j := 3) dX6_with_20 rfl rfl ?_
    obtain ⟨v1, ev1, hf⟩ := ob hf
    refine g_getF dX6_with_21 ev1 t_360 hin10 hc10 (by decide) rfl ?_
    obtain ⟨v2, ev2, hf⟩ := ob hf
    refine g_alen dX6_with_24 ev2 ?_
    refine g_icmp_ge (tgt := 85) dX6_with_25 (by decide) (fun c3 => ?_) (fun c3 => ?_)
    · rw [if_pos c3] at hf
      refine g_aload_n (j := 3) dX6_with_85 rfl rfl ?_
      exact g_aret dX6_with_86 rfl rfl hX2 hX1 hf
    · rw [if_neg c3] at hf
      refine g_iload (j := 4) dX6_with_28 rfl ?_
      refine g_iload_n (j := 2) dX6_with_30 rfl rfl ?_
      refine g_icmp_le (tgt := 41) dX6_with_31 (by decide) (fun c4 => ?_) (fun c4 => ?_)
      · rw [if_pos c4] at hf
        refine g_iload (j := 4) dX6_with_41 rfl ?_
        exact bX6_with_43 hX1 hX2 (fun σ x0 x1 x2 x3 x4 hf => ih σ x0 x1 x2 x3 x4 hf) hf
      · rw [if_neg c4] at hf
        refine g_iload (j := 4) dX6_with_34 rfl ?_
        refine g_iconst (v := 1) dX6_with_36 (by decide) ?_
        refine g_isub dX6_with_37 ?_
        refine g_goto (tgt := 43) dX6_with_38 (by decide) ?_
        exact bX6_with_43 hX1 hX2 (fun σ x0 x1 x2 x3 x4 hf => ih σ x0 x1 x2 x3 x4 hf) hf

set_option maxRecDepth 100000 in
set_option maxHeartbeats 4000000 in
theorem wX6_with (l : Launch) {σ σf : St} {x0 : Nat} {x1 : Nat} {x2 : Int32} {r : Nat} (hf : fX6_with σ x0 x1 x2 = some (σf, r)) : Con MtX6_with yX6_with l σ [rv x0, rv x1, .int x2] σf (some (rv r)) := by
  refine Con.of (by decide +kernel) rfl (fun h => absurd (show false = true from h) (by decide)) (by simp only [sl_n, sl_r, sl_i, sl_l]; exact Nat.le_of_ble_eq_true rfl) ?_
  rw [show lv_args 0 [rv x0, rv x1, .int x2] = [(0, rv x0), (1, rv x1), (2, .int x2)] by simp only [la_n, la_r, la_i, la_l] <;> rfl]
  have hX1 : ((l, σ, σf, .inl (some (rv r))) : Xt).2.2.1 = σf := rfl
  have hX2 : ((l, σ, σf, .inl (some (rv r))) : Xt).2.2.2 = .inl (some (rv r)) := rfl
  unfold fX6_with at hf
  obtain ⟨σ1, eσ1, hf⟩ := nm_el hf
  obtain ⟨a2, ea2, hf⟩ := nm_el hf
  refine g_new9 dX6_with_0 hc10 hin10 hty10 hdf10 t_1816 t_351 t_14 eσ1 ea2 ?_
  refine g_dup dX6_with_3 (rv_cat _) ?_
  refine g_aload_n (j := 0) dX6_with_4 rfl rfl ?_
  obtain ⟨v3, ev3, hf⟩ := ob hf
  refine g_getF dX6_with_5 ev3 t_360 hin10 hc10 (by decide) rfl ?_
  obtain ⟨v4, ev4, hf⟩ := ob hf
  refine g_alen dX6_with_8 ev4 ?_
  refine g_iconst (v := 1) dX6_with_9 (by decide) ?_
  refine g_iadd dX6_with_10 ?_
  obtain ⟨_, h7, hf⟩ := ob hf
  obtain ⟨σ5, v6, eσ5, hf⟩ := cb_el hf
  refine g_callI dX6_with_11 (wX6_init _ eσ5) (okX6_init _ (by decide) (by decide)) rfl (by rw [ckK_el h7]; decide) rfl t_1817 t_353 rfl (Nat.le_trans (cat_le _) (Nat.le_of_ble_eq_true rfl)) rfl ?_
  refine g_astore_n (i := 3) (L' := [(3, rv a2), (0, rv x0), (1, rv x1), (2, .int x2)]) dX6_with_14 rfl (Nat.le_of_ble_eq_true rfl) rfl ?_
  refine g_iconst (v := 0) dX6_with_15 (by decide) ?_
  refine g_istore (i := 4) (L' := [(4, .int 0), (3, rv a2), (0, rv x0), (1, rv x1), (2, .int x2)]) dX6_with_16 (Nat.le_of_ble_eq_true rfl) (by simp [rv_cat]) ?_
  refine g_sub (L' := [(0, rv x0), (1, rv x1), (2, .int x2), (3, rv a2), (4, .int 0)]) [2, 3, 4, 1, 0] rfl ?_
  exact bX6_with_18 hX1 hX2 FU _ _ _ _ _ _ hf

theorem okX6_with (M : Mt) (h1 : 2 + 1 ≤ M.2.2.2.2.1) (h2 : 8 + (6 + 11) + 105 ≤ M.2.2.2.2.2.1) : CallOk M MtX6_with yX6_with 2 := ⟨t_1815, h1, h2, ⟨by decide, by decide⟩, by decide +kernel, t_14⟩
abbrev MtX7_withRow : Mt := (cX7_withRow, 4, "ExactlySaid$State", (Option.some (Jvm.ClassFile.FieldType.object "ExactlySaid$State")), 2, 106, false)
set_option maxRecDepth 100000 in
set_option maxHeartbeats 4000000 in
theorem bX7_withRow_25 {X : Xt} {σf : St} {r : Nat} (hX1 : X.2.2.1 = σf) (hX2 : X.2.2.2 = .inl (some (rv r))) {σ : St} {x0 : Nat} {x3 : Nat} (hf : fX7_withRow_25 σ x0 x3 = some (σf, r)) : G MtX7_withRow X σ 25 [(0, rv x0), (3, rv x3)] [] := by
  unfold fX7_withRow_25 at hf
  obtain ⟨σ1, eσ1, hf⟩ := nm_el hf
  obtain ⟨a2, ea2, hf⟩ := nm_el hf
  refine g_new9 dX7_withRow_25 hc11 hin11 hty11 hdf11 t_1827 t_321 t_12 eσ1 ea2 ?_
  refine g_dup dX7_withRow_28 (rv_cat _) ?_
  refine g_aload_n (j := 0) dX7_withRow_29 rfl rfl ?_
  obtain ⟨v3, ev3, hf⟩ := ob hf
  refine g_getF dX7_withRow_30 ev3 t_366 hin11 hc11 (by decide) rfl ?_
  refine g_aload_n (j := 1) dX7_withRow_33 rfl rfl ?_
  obtain ⟨_, h6, hf⟩ := ob hf
  obtain ⟨σ4, v5, eσ4, hf⟩ := cb_el hf
  refine g_callI dX7_withRow_34 (wX7_init_ _ eσ4) (okX7_init_ _ (by decide) (by decide)) rfl (by rw [ckK_el h6]; decide) rfl t_1828 t_1612 rfl (Nat.le_trans (cat_le _) (Nat.le_of_ble_eq_true rfl)) rfl ?_
  exact g_aret dX7_withRow_37 rfl rfl hX2 hX1 hf

set_option maxRecDepth 100000 in
set_option maxHeartbeats 4000000 in
theorem wX7_withRow (l : Launch) {σ σf : St} {x0 : Nat} {x1 : Int32} {x2 : Nat} {r : Nat} (hf : fX7_withRow σ x0 x1 x2 = some (σf, r)) : Con MtX7_withRow yX7_withRow l σ [rv x0, .int x1, rv x2] σf (some (rv r)) := by
  refine Con.of (by decide +kernel) rfl (fun h => absurd (show false = true from h) (by decide)) (by simp only [sl_n, sl_r, sl_i, sl_l]; exact Nat.le_of_ble_eq_true rfl) ?_
  rw [show lv_args 0 [rv x0, .int x1, rv x2] = [(0, rv x0), (1, .int x1), (2, rv x2)] by simp only [la_n, la_r, la_i, la_l] <;> rfl]
  have hX1 : ((l, σ, σf, .inl (some (rv r))) : Xt).2.2.1 = σf := rfl
  have hX2 : ((l, σ, σf, .inl (some (rv r))) : Xt).2.2.2 = .inl (some (rv r)) := rfl
  unfold fX7_withRow at hf
  refine g_aload_n (j := 0) dX7_withRow_0 rfl rfl ?_
  obtain ⟨v1, ev1, hf⟩ := ob hf
  refine g_getF dX7_withRow_1 ev1 t_368 hin11 hc11 (by decide) rfl ?_
  obtain ⟨σ2, eσ2, hf⟩ := ob hf
  obtain ⟨a3, ea3, hf⟩ := nm_el hf
  refine g_clone9 dX7_withRow_4 eσ2 (by decide) (by decide) t_1822 t_1823 t_517 t_518 t_1824 t_1825 (by decide) (by decide) (by decide) (Nat.le_of_ble_eq_true rfl) ea3 ?_
  obtain ⟨_, h4, hf⟩ := ob hf
  refine g_castA (ti := 5) dX7_withRow_7 h4 (by decide) (by decide) t_1826 (by decide) ?_
  refine g_astore_n (i := 3) (L' := [(3, rv a3), (0, rv x0), (1, .int x1), (2, rv x2)]) dX7_withRow_10 rfl (Nat.le_of_ble_eq_true rfl) (by simp [rv_cat]) ?_
  refine g_iload_n (j := 2) dX7_withRow_11 rfl rfl ?_
  refine g_if_lt (tgt := 25) dX7_withRow_12 (by decide) (fun c5 => ?_) (fun c5 => ?_)
  · rw [if_pos c5] at hf
    refine g_sub (L' := [(0, rv x0), (3, rv a3)]) [1, 0] rfl ?_
    exact bX7_withRow_25 hX1 hX2 hf
  · rw [if_neg c5] at hf
    refine g_iload_n (j := 2) dX7_withRow_15 rfl rfl ?_
    refine g_aload_n (j := 0) dX7_withRow_16 rfl rfl ?_
    obtain ⟨v6, ev6, hf⟩ := ob hf
    refine g_alen dX7_withRow_17 ev6 ?_
    refine g_icmp_ge (tgt := 25) dX7_withRow_18 (by decide) (fun c7 => ?_) (fun c7 => ?_)
    · rw [if_pos c7] at hf
      refine g_sub (L' := [(0, rv x0), (3, rv a3)]) [1, 0] rfl ?_
      exact bX7_withRow_25 hX1 hX2 hf
    · rw [if_neg c7] at hf
      refine g_aload_n (j := 0) dX7_withRow_21 rfl rfl ?_
      refine g_iload_n (j := 2) dX7_withRow_22 rfl rfl ?_
      refine g_aload_n (j := 3) dX7_withRow_23 rfl rfl ?_
      obtain ⟨σ8, eσ8, hf⟩ := ob hf
      refine g_aast dX7_withRow_24 (by decide) rfl hc10 eσ8 ?_
      refine g_sub (L' := [(0, rv x0), (3, rv a3)]) [1, 0] rfl ?_
      exact bX7_withRow_25 hX1 hX2 hf

theorem okX7_withRow (M : Mt) (h1 : 2 + 1 ≤ M.2.2.2.2.1) (h2 : 8 + (4 + 11) + 106 ≤ M.2.2.2.2.2.1) : CallOk M MtX7_withRow yX7_withRow 2 := ⟨t_1821, h1, h2, ⟨by decide, by decide⟩, by decide +kernel, t_12⟩
abbrev MtX11_put : Mt := (cX11_put, 4, "ExactlySaid", (Option.some Jvm.ClassFile.FieldType.int), 8, 176, false)
set_option maxRecDepth 100000 in
set_option maxHeartbeats 4000000 in
theorem wX11_put (l : Launch) (hst : l.stackTraces = false) {σ σf : St} {x0 : Nat} {x1 : Int32} {r : (String ⊕ Int32)} (hf : fX11_put σ x0 x1 = some (σf, r)) : ConT MtX11_put yX11_put l σ [rv x0, .int x1] σf (ocI r) := by
  refine ConT.of hst (by decide +kernel) rfl (fun h => absurd (show false = true from h) (by decide)) (by simp only [sl_n, sl_r, sl_i, sl_l]; exact Nat.le_of_ble_eq_true rfl) ?_
  rw [show lv_args 0 [rv x0, .int x1] = [(0, rv x0), (1, .int x1)] by simp only [la_n, la_r, la_i, la_l] <;> rfl]
  have hX1 : ((l, σ, σf, xo (ocI r)) : Xt).2.2.1 = σf := rfl
  have hX2 : ((l, σ, σf, xo (ocI r)) : Xt).2.2.2 = xo (ocI r) := rfl
  generalize ((l, σ, σf, xo (ocI r)) : Xt) = X at hX1 hX2 ⊢
  unfold fX11_put at hf
  refine g_aload_n (j := 0) dX11_put_0 rfl rfl ?_
  refine g_iload_n (j := 1) dX11_put_1 rfl rfl ?_
  obtain ⟨_, h3, hf⟩ := ob hf
  obtain ⟨σ1, v2, eσ1, hf⟩ := cb_el hf
  refine g_callV_i dX11_put_2 (wX11_isRow _ eσ1) (okX11_isRow _ (by decide) (by decide)) (ckK_el h3) hc15 t_1803 t_1805 s_X11_isRow rfl (Nat.le_trans (cat_le _) (Nat.le_of_ble_eq_true rfl)) rfl ?_
  refine g_if_ne (tgt := 16) dX11_put_5 (by decide) (fun c4 => ?_) (fun c4 => ?_)
  · rw [if_neg c4] at hf
    refine g_aload_n (j := 0) dX11_put_16 rfl rfl ?_
    obtain ⟨_, h7, hf⟩ := ob hf
    obtain ⟨σ5, a6, eσ5, hf⟩ := cb_el hf
    refine g_callV_q dX11_put_17 (wX11_present _ eσ5) (okX11_present _ (by decide) (by decide)) (ckK_el h7) hc15 t_959 t_961 s_X11_present rfl (Nat.le_trans (cat_le _) (Nat.le_of_ble_eq_true rfl)) rfl ?_
    obtain ⟨v8, ev8, hf⟩ := ob hf
    refine g_getFN dX11_put_20 ev8 t_369 hin11 hc11 (by decide) rfl ?_
    refine g_iload_n (j := 1) dX11_put_23 rfl rfl ?_
    obtain ⟨v9, ev9, hf⟩ := ob hf
    refine g_aald dX11_put_24 (by decide) rfl ev9 ?_
    refine g_astore_n (i := 2) (L' := [(2, rv v9), (0, rv x0), (1, .int x1)]) dX11_put_25 rfl (Nat.le_of_ble_eq_true rfl) rfl ?_
    refine g_aload_n (j := 0) dX11_put_26 rfl rfl ?_
    obtain ⟨v10, ev10, hf⟩ := ob hf
    refine g_getFN dX11_put_27 ev10 t_362 hin10 hc10 (by decide) rfl ?_
    obtain ⟨v11, ev11, hf⟩ := ob hf
    refine g_alen dX11_put_30 ev11 ?_
    refine g_bipush (v := 50) dX11_put_31 (by decide) ?_
    refine g_icmp_lt (tgt := 44) dX11_put_33 (by decide) (fun c12 => ?_) (fun c12 => ?_)
    · rw [if_pos c12] at hf
      refine g_aload_n (j := 0) dX11_put_44 rfl rfl ?_
      refine g_aload_n (j := 1) dX11_put_45 rfl rfl ?_
      obtain ⟨v13, ev13, hf⟩ := ob hf
      refine g_getF dX11_put_46 ev13 t_383 hin15 hc15 (by decide) rfl ?_
      refine g_aload_n (j := 1) dX11_put_49 rfl rfl ?_
      obtain ⟨v14, ev14, hf⟩ := ob hf
      refine g_getF dX11_put_50 ev14 t_391 hin15 hc15 (by decide) rfl ?_
      refine g_aload_n (j := 0) dX11_put_53 rfl rfl ?_
      refine g_aload_n (j := 1) dX11_put_54 rfl rfl ?_
      obtain ⟨v15, ev15, hf⟩ := ob hf
      refine g_getF dX11_put_55 ev15 t_383 hin15 hc15 (by decide) rfl ?_
      obtain ⟨_, h18, hf⟩ := ob hf
      obtain ⟨σ16, v17, eσ16, hf⟩ := cb_el hf
      refine g_callVN_i dX11_put_58 (wX5_countBelow _ eσ16) (okX5_countBelow _ (by decide) (by decide)) (ckK_el h18) hc9 t_1807 t_1809 s_X5_countBelow rfl (Nat.le_trans (cat_le _) (Nat.le_of_ble_eq_true rfl)) rfl ?_
      obtain ⟨_, h21, hf⟩ := ob hf
      obtain ⟨σ19, a20, eσ19, hf⟩ := cb_el hf
      refine g_callVN_q dX11_put_61 (wX6_with _ eσ19) (okX6_with _ (by decide) (by decide)) (ckK_el h21) hc10 t_1812 t_1814 s_X6_with rfl (Nat.le_trans (cat_le _) (Nat.le_of_ble_eq_true rfl)) rfl ?_
      refine g_astore_n (i := 3) (L' := [(3, rv a20), (2, rv v9), (0, rv x0), (1, .int x1)]) dX11_put_64 rfl (Nat.le_of_ble_eq_true rfl) (by simp [rv_cat]) ?_
      refine g_aload_n (j := 2) dX11_put_65 rfl rfl ?_
      refine g_aload_n (j := 2) dX11_put_66 rfl rfl ?_
      obtain ⟨_, h24, hf⟩ := ob hf
      obtain ⟨σ22, a23, eσ22, hf⟩ := cb_el hf
      refine g_callV_q dX11_put_67 (wX11_present _ eσ22) (okX11_present _ (by decide) (by decide)) (ckK_el h24) hc15 t_959 t_961 s_X11_present rfl (Nat.le_trans (cat_le _) (Nat.le_of_ble_eq_true rfl)) rfl ?_
      refine g_iload_n (j := 3) dX11_put_70 rfl rfl ?_
      refine g_aload_n (j := 0) dX11_put_71 rfl rfl ?_
      obtain ⟨_, h27, hf⟩ := ob hf
      obtain ⟨σ25, a26, eσ25, hf⟩ := cb_el hf
      refine g_callVN_q dX11_put_72 (wX7_withRow _ eσ25) (okX7_withRow _ (by decide) (by decide)) (ckK_el h27) hc11 t_1818 t_1820 s_X7_withRow rfl (Nat.le_trans (cat_le _) (Nat.le_of_ble_eq_true rfl)) rfl ?_
      obtain ⟨_, h30, hf⟩ := ob hf
      obtain ⟨σ28, v29, eσ28, hf⟩ := cb_el hf
      refine g_callV_v dX11_put_75 (wX11_change _ eσ28) (okX11_change _ (by decide) (by decide)) (ckK_el h30) hc15 t_1614 t_1616 s_X11_change rfl (Nat.le_trans (cat_le _) (Nat.le_of_ble_eq_true rfl)) rfl ?_
      refine g_aload_n (j := 0) dX11_put_78 rfl rfl ?_
      obtain ⟨v31, ev31, hf⟩ := ob hf
      refine g_getFN dX11_put_79 ev31 t_362 hin10 hc10 (by decide) rfl ?_
      obtain ⟨v32, ev32, hf⟩ := ob hf
      refine g_alen dX11_put_82 ev32 ?_
      cases hf
      exact g_iret dX11_put_83 rfl rfl hX2 hX1 rfl
    · rw [if_neg c12] at hf
      cases hf
      exact g_throw (cls := "java/lang/IllegalStateException") (names := ["java/lang/RuntimeException", "java/lang/Exception"]) dX11_put_36 dX11_put_39 dX11_put_40 dX11_put_43 (by decide +kernel) (by decide +kernel) thw_92 thg_92 (by decide) (by decide) hX2 hX1 rfl
  · rw [if_pos c4] at hf
    cases hf
    exact g_throw (cls := "java/lang/IllegalArgumentException") (names := ["java/lang/RuntimeException", "java/lang/Exception"]) dX11_put_8 dX11_put_11 dX11_put_12 dX11_put_15 (by decide +kernel) (by decide +kernel) thw_103 thg_103 (by decide) (by decide) hX2 hX1 rfl

theorem okX11_put (M : Mt) (h1 : 8 + 1 ≤ M.2.2.2.2.1) (h2 : 8 + (4 + 11) + 176 ≤ M.2.2.2.2.2.1) : CallOk M MtX11_put yX11_put 1 := ⟨t_1802, h1, h2, ⟨by decide, by decide⟩, by decide +kernel, t_1⟩
abbrev MtX6_countSame : Mt := (cX6_countSame, 4, "ExactlySaid$Row", (Option.some Jvm.ClassFile.FieldType.int), 3, 127, false)
set_option maxRecDepth 100000 in
set_option maxHeartbeats 4000000 in
theorem bX6_countSame_2 {X : Xt} {σf : St} {r : Int32} (hX1 : X.2.2.1 = σf) (hX2 : X.2.2.2 = .inl (some (.int r))) : ∀ (n : Nat) (σ : St) (x0 : Nat) (x1 : Int32) (x2 : Nat) (x3 : Int32), fX6_countSame_2 n σ x0 x1 x2 x3 = some (σf, r) → G MtX6_countSame X σ 2 [(0, rv x0), (1, .int x1), (2, rv x2), (3, .int x3)] [] := by
  intro n
  induction n with
  | zero => intro σ x0 x1 x2 x3 hf; cases hf
  | succ n ih =>
    intro σ x0 x1 x2 x3 hf
    rw [fX6_countSame_2] at hf
    refine g_iload_n (j := 1) dX6_countSame_2 rfl rfl ?_
    refine g_if_lt (tgt := 38) dX6_countSame_3 (by decide) (fun c1 => ?_) (fun c1 => ?_)
    · rw [if_pos c1] at hf
      refine g_iload_n (j := 3) dX6_countSame_38 rfl rfl ?_
      exact g_iret dX6_countSame_39 rfl rfl hX2 hX1 hf
    · rw [if_neg c1] at hf
      refine g_iload_n (j := 1) dX6_countSame_6 rfl rfl ?_
      refine g_iload_n (j := 3) dX6_countSame_7 rfl rfl ?_
      refine g_iadd dX6_countSame_8 ?_
      refine g_aload_n (j := 0) dX6_countSame_9 rfl rfl ?_
      obtain ⟨v2, ev2, hf⟩ := ob hf
      refine g_getF dX6_countSame_10 ev2 t_360 hin10 hc10 (by decide) rfl ?_
      obtain ⟨v3, ev3, hf⟩ := ob hf
      refine g_alen dX6_countSame_13 ev3 ?_
      refine g_icmp_ge (tgt := 38) dX6_countSame_14 (by decide) (fun c4 => ?_) (fun c4 => ?_)
      · rw [if_pos c4] at hf
        refine g_iload_n (j := 3) dX6_countSame_38 rfl rfl ?_
        exact g_iret dX6_countSame_39 rfl rfl hX2 hX1 hf
      · rw [if_neg c4] at hf
        refine g_aload_n (j := 0) dX6_countSame_17 rfl rfl ?_
        obtain ⟨v5, ev5, hf⟩ := ob hf
        refine g_getF dX6_countSame_18 ev5 t_360 hin10 hc10 (by decide) rfl ?_
        refine g_iload_n (j := 1) dX6_countSame_21 rfl rfl ?_
        refine g_iload_n (j := 3) dX6_countSame_22 rfl rfl ?_
        refine g_iadd dX6_countSame_23 ?_
        obtain ⟨v6, ev6, hf⟩ := ob hf
        refine g_aald dX6_countSame_24 (by decide) rfl ev6 ?_
        refine g_aload_n (j := 2) dX6_countSame_25 rfl rfl ?_
        obtain ⟨_, h9, hf⟩ := ob hf
        obtain ⟨σ7, v8, eσ7, hf⟩ := cb_el hf
        refine g_callVN_i dX6_countSame_26 (wX1_isSame _ eσ7) (okX1_isSame _ (by decide) (by decide)) (ckK_el h9) hc5 t_1840 t_1217 s_X1_isSame rfl (Nat.le_trans (cat_le _) (Nat.le_of_ble_eq_true rfl)) rfl ?_
        refine g_if_eq (tgt := 38) dX6_countSame_29 (by decide) (fun c10 => ?_) (fun c10 => ?_)
        · rw [if_pos c10] at hf
          refine g_iload_n (j := 3) dX6_countSame_38 rfl rfl ?_
          exact g_iret dX6_countSame_39 rfl rfl hX2 hX1 hf
        · rw [if_neg c10] at hf
          obtain ⟨v11, ev11, hf⟩ := nm_el hf
          refine g_iinc (L' := [(3, .int v11), (0, rv x0), (1, .int x1), (2, rv x2)]) (j := 3) (v := v11) dX6_countSame_32 rfl (by rw [ev11]; rfl) (Nat.le_of_ble_eq_true rfl) (by simp [rv_cat]) ?_
          refine g_goto (tgt := 2) dX6_countSame_35 (by decide) ?_
          refine g_sub (L' := [(0, rv x0), (1, .int x1), (2, rv x2), (3, .int v11)]) [1, 2, 3, 0] rfl ?_
          exact ih _ _ _ _ _ hf

set_option maxRecDepth 100000 in
set_option maxHeartbeats 4000000 in
theorem wX6_countSame (l : Launch) {σ σf : St} {x0 : Nat} {x1 : Int32} {x2 : Nat} {r : Int32} (hf : fX6_countSame σ x0 x1 x2 = some (σf, r)) : Con MtX6_countSame yX6_countSame l σ [rv x0, .int x1, rv x2] σf (some (.int r)) := by
  refine Con.of (by decide +kernel) rfl (fun h => absurd (show false = true from h) (by decide)) (by simp only [sl_n, sl_r, sl_i, sl_l]; exact Nat.le_of_ble_eq_true rfl) ?_
  rw [show lv_args 0 [rv x0, .int x1, rv x2] = [(0, rv x0), (1, .int x1), (2, rv x2)] by simp only [la_n, la_r, la_i, la_l] <;> rfl]
  have hX1 : ((l, σ, σf, .inl (some (.int r))) : Xt).2.2.1 = σf := rfl
  have hX2 : ((l, σ, σf, .inl (some (.int r))) : Xt).2.2.2 = .inl (some (.int r)) := rfl
  unfold fX6_countSame at hf
  refine g_iconst (v := 0) dX6_countSame_0 (by decide) ?_
  refine g_istore_n (i := 3) (L' := [(3, .int 0), (0, rv x0), (1, .int x1), (2, rv x2)]) dX6_countSame_1 rfl (Nat.le_of_ble_eq_true rfl) (by simp [rv_cat]) ?_
  refine g_sub (L' := [(0, rv x0), (1, .int x1), (2, rv x2), (3, .int 0)]) [1, 2, 3, 0] rfl ?_
  exact bX6_countSame_2 hX1 hX2 FU _ _ _ _ _ hf

theorem okX6_countSame (M : Mt) (h1 : 3 + 1 ≤ M.2.2.2.2.1) (h2 : 8 + (4 + 11) + 127 ≤ M.2.2.2.2.2.1) : CallOk M MtX6_countSame yX6_countSame 2 := ⟨t_1839, h1, h2, ⟨by decide, by decide⟩, by decide +kernel, t_14⟩
abbrev MtX6_without : Mt := (cX6_without, 4, "ExactlySaid$Row", (Option.some (Jvm.ClassFile.FieldType.object "ExactlySaid$Row")), 2, 105, false)
set_option maxRecDepth 100000 in
set_option maxHeartbeats 4000000 in
theorem bX6_without_47 {X : Xt} {σf : St} {r : Nat} (hX1 : X.2.2.1 = σf) (hX2 : X.2.2.2 = .inl (some (rv r))) {k17 : St → Nat → Int32 → Nat → Int32 → Option (St × Nat)} (hk17 : ∀ (σ : St) (x0 : Nat) (x1 : Int32) (x2 : Nat) (x3 : Int32), k17 σ x0 x1 x2 x3 = some (σf, r) → G MtX6_without X σ 17 [(0, rv x0), (1, .int x1), (2, rv x2), (3, .int x3)] []) {σ : St} {x0 : Nat} {x1 : Int32} {x2 : Nat} {x3 : Int32} {y0 : Nat} {y1 : Int32} {y2 : Nat} {y3 : Int32} (hf : fX6_without_47 k17 σ x0 x1 x2 x3 y0 y1 y2 y3 = some (σf, r)) : G MtX6_without X σ 47 [(0, rv x0), (1, .int x1), (2, rv x2), (3, .int x3)] [.int y3, rv y2, .int y1, rv y0] := by
  unfold fX6_without_47 at hf
  obtain ⟨v1, ev1, hf⟩ := ob hf
  refine g_aald dX6_without_47 (by decide) rfl ev1 ?_
  obtain ⟨σ2, eσ2, hf⟩ := ob hf
  refine g_aast dX6_without_48 (by decide) rfl hc5 eσ2 ?_
  obtain ⟨v3, ev3, hf⟩ := nm_el hf
  refine g_iinc (L' := [(3, .int v3), (0, rv x0), (1, .int x1), (2, rv x2)]) (j := 3) (v := v3) dX6_without_49 rfl (by rw [ev3]; rfl) (Nat.le_of_ble_eq_true rfl) (by simp [rv_cat]) ?_
  refine g_goto (tgt := 17) dX6_without_52 (by decide) ?_
  refine g_sub (L' := [(0, rv x0), (1, .int x1), (2, rv x2), (3, .int v3)]) [1, 2, 3, 0] rfl ?_
  exact hk17 _ _ _ _ _ hf

set_option maxRecDepth 100000 in
set_option maxHeartbeats 4000000 in
theorem bX6_without_17 {X : Xt} {σf : St} {r : Nat} (hX1 : X.2.2.1 = σf) (hX2 : X.2.2.2 = .inl (some (rv r))) : ∀ (n : Nat) (σ : St) (x0 : Nat) (x1 : Int32) (x2 : Nat) (x3 : Int32), fX6_without_17 n σ x0 x1 x2 x3 = some (σf, r) → G MtX6_without X σ 17 [(0, rv x0), (1, .int x1), (2, rv x2), (3, .int x3)] [] := by
  intro n
  induction n with
  | zero => intro σ x0 x1 x2 x3 hf; cases hf
  | succ n ih =>
    intro σ x0 x1 x2 x3 hf
    rw [fX6_without_17] at hf
    refine g_iload_n (j := 3) dX6_without_17 rfl rfl ?_
    refine g_aload_n (j := 2) dX6_without_18 rfl rfl ?_
    obtain ⟨v1, ev1, hf⟩ := ob hf
    refine g_getF dX6_without_19 ev1 t_360 hin10 hc10 (by decide) rfl ?_
    obtain ⟨v2, ev2, hf⟩ := ob hf
    refine g_alen dX6_without_22 ev2 ?_
    refine g_icmp_ge (tgt := 55) dX6_without_23 (by decide) (fun c3 => ?_) (fun c3 => ?_)
    · rw [if_pos c3] at hf
      refine g_aload_n (j := 2) dX6_without_55 rfl rfl ?_
      exact g_aret dX6_without_56 rfl rfl hX2 hX1 hf
    · rw [if_neg c3] at hf
      refine g_aload_n (j := 2) dX6_without_26 rfl rfl ?_
      obtain ⟨v4, ev4, hf⟩ := ob hf
      refine g_getF dX6_without_27 ev4 t_360 hin10 hc10 (by decide) rfl ?_
      refine g_iload_n (j := 3) dX6_without_30 rfl rfl ?_
      refine g_aload_n (j := 0) dX6_without_31 rfl rfl ?_
      obtain ⟨v5, ev5, hf⟩ := ob hf
      refine g_getF dX6_without_32 ev5 t_360 hin10 hc10 (by decide) rfl ?_
      refine g_iload_n (j := 3) dX6_without_35 rfl rfl ?_
      refine g_iload_n (j := 1) dX6_without_36 rfl rfl ?_
      refine g_icmp_ge (tgt := 44) dX6_without_37 (by decide) (fun c6 => ?_) (fun c6 => ?_)
      · rw [if_pos c6] at hf
        refine g_iload_n (j := 3) dX6_without_44 rfl rfl ?_
        refine g_iconst (v := 1) dX6_without_45 (by decide) ?_
        refine g_iadd dX6_without_46 ?_
        exact bX6_without_47 hX1 hX2 (fun σ x0 x1 x2 x3 hf => ih σ x0 x1 x2 x3 hf) hf
      · rw [if_neg c6] at hf
        refine g_iload_n (j := 3) dX6_without_40 rfl rfl ?_
        refine g_goto (tgt := 47) dX6_without_41 (by decide) ?_
        exact bX6_without_47 hX1 hX2 (fun σ x0 x1 x2 x3 hf => ih σ x0 x1 x2 x3 hf) hf

set_option maxRecDepth 100000 in
set_option maxHeartbeats 4000000 in
theorem wX6_without (l : Launch) {σ σf : St} {x0 : Nat} {x1 : Int32} {r : Nat} (hf : fX6_without σ x0 x1 = some (σf, r)) : Con MtX6_without yX6_without l σ [rv x0, .int x1] σf (some (rv r)) := by
  refine Con.of (by decide +kernel) rfl (fun h => absurd (show false = true from h) (by decide)) (by simp only [sl_n, sl_r, sl_i, sl_l]; exact Nat.le_of_ble_eq_true rfl) ?_
  rw [show lv_args 0 [rv x0, .int x1] = [(0, rv x0), (1, .int x1)] by simp only [la_n, la_r, la_i, la_l] <;> rfl]
  have hX1 : ((l, σ, σf, .inl (some (rv r))) : Xt).2.2.1 = σf := rfl
  have hX2 : ((l, σ, σf, .inl (some (rv r))) : Xt).2.2.2 = .inl (some (rv r)) := rfl
  unfold fX6_without at hf
  obtain ⟨σ1, eσ1, hf⟩ := nm_el hf
  obtain ⟨a2, ea2, hf⟩ := nm_el hf
  refine g_new9 dX6_without_0 hc10 hin10 hty10 hdf10 t_1816 t_351 t_14 eσ1 ea2 ?_
  refine g_dup dX6_without_3 (rv_cat _) ?_
  refine g_aload_n (j := 0) dX6_without_4 rfl rfl ?_
  obtain ⟨v3, ev3, hf⟩ := ob hf
  refine g_getF dX6_without_5 ev3 t_360 hin10 hc10 (by decide) rfl ?_
  obtain ⟨v4, ev4, hf⟩ := ob hf
  refine g_alen dX6_without_8 ev4 ?_
  refine g_iconst (v := 1) dX6_without_9 (by decide) ?_
  refine g_isub dX6_without_10 ?_
  obtain ⟨_, h7, hf⟩ := ob hf
  obtain ⟨σ5, v6, eσ5, hf⟩ := cb_el hf
  refine g_callI dX6_without_11 (wX6_init _ eσ5) (okX6_init _ (by decide) (by decide)) rfl (by rw [ckK_el h7]; decide) rfl t_1817 t_353 rfl (Nat.le_trans (cat_le _) (Nat.le_of_ble_eq_true rfl)) rfl ?_
  refine g_astore_n (i := 2) (L' := [(2, rv a2), (0, rv x0), (1, .int x1)]) dX6_without_14 rfl (Nat.le_of_ble_eq_true rfl) rfl ?_
  refine g_iconst (v := 0) dX6_without_15 (by decide) ?_
  refine g_istore_n (i := 3) (L' := [(3, .int 0), (2, rv a2), (0, rv x0), (1, .int x1)]) dX6_without_16 rfl (Nat.le_of_ble_eq_true rfl) (by simp [rv_cat]) ?_
  refine g_sub (L' := [(0, rv x0), (1, .int x1), (2, rv a2), (3, .int 0)]) [2, 3, 1, 0] rfl ?_
  exact bX6_without_17 hX1 hX2 FU _ _ _ _ _ hf

theorem okX6_without (M : Mt) (h1 : 2 + 1 ≤ M.2.2.2.2.1) (h2 : 8 + (4 + 11) + 105 ≤ M.2.2.2.2.2.1) : CallOk M MtX6_without yX6_without 1 := ⟨t_1844, h1, h2, ⟨by decide, by decide⟩, by decide +kernel, t_14⟩
abbrev MtX11_out : Mt := (cX11_out, 5, "ExactlySaid", (Option.some Jvm.ClassFile.FieldType.int), 8, 176, false)
set_option maxRecDepth 100000 in
set_option maxHeartbeats 4000000 in
theorem wX11_out (l : Launch) (hst : l.stackTraces = false) {σ σf : St} {x0 : Nat} {x1 : Int32} {r : (String ⊕ Int32)} (hf : fX11_out σ x0 x1 = some (σf, r)) : ConT MtX11_out yX11_out l σ [rv x0, .int x1] σf (ocI r) := by
  refine ConT.of hst (by decide +kernel) rfl (fun h => absurd (show false = true from h) (by decide)) (by simp only [sl_n, sl_r, sl_i, sl_l]; exact Nat.le_of_ble_eq_true rfl) ?_
  rw [show lv_args 0 [rv x0, .int x1] = [(0, rv x0), (1, .int x1)] by simp only [la_n, la_r, la_i, la_l] <;> rfl]
  have hX1 : ((l, σ, σf, xo (ocI r)) : Xt).2.2.1 = σf := rfl
  have hX2 : ((l, σ, σf, xo (ocI r)) : Xt).2.2.2 = xo (ocI r) := rfl
  generalize ((l, σ, σf, xo (ocI r)) : Xt) = X at hX1 hX2 ⊢
  unfold fX11_out at hf
  refine g_aload_n (j := 0) dX11_out_0 rfl rfl ?_
  refine g_iload_n (j := 1) dX11_out_1 rfl rfl ?_
  obtain ⟨_, h3, hf⟩ := ob hf
  obtain ⟨σ1, v2, eσ1, hf⟩ := cb_el hf
  refine g_callV_i dX11_out_2 (wX11_isRow _ eσ1) (okX11_isRow _ (by decide) (by decide)) (ckK_el h3) hc15 t_1803 t_1805 s_X11_isRow rfl (Nat.le_trans (cat_le _) (Nat.le_of_ble_eq_true rfl)) rfl ?_
  refine g_if_ne (tgt := 16) dX11_out_5 (by decide) (fun c4 => ?_) (fun c4 => ?_)
  · rw [if_neg c4] at hf
    refine g_aload_n (j := 0) dX11_out_16 rfl rfl ?_
    obtain ⟨_, h7, hf⟩ := ob hf
    obtain ⟨σ5, a6, eσ5, hf⟩ := cb_el hf
    refine g_callV_q dX11_out_17 (wX11_present _ eσ5) (okX11_present _ (by decide) (by decide)) (ckK_el h7) hc15 t_959 t_961 s_X11_present rfl (Nat.le_trans (cat_le _) (Nat.le_of_ble_eq_true rfl)) rfl ?_
    obtain ⟨v8, ev8, hf⟩ := ob hf
    refine g_getFN dX11_out_20 ev8 t_369 hin11 hc11 (by decide) rfl ?_
    refine g_iload_n (j := 1) dX11_out_23 rfl rfl ?_
    obtain ⟨v9, ev9, hf⟩ := ob hf
    refine g_aald dX11_out_24 (by decide) rfl ev9 ?_
    refine g_astore_n (i := 2) (L' := [(2, rv v9), (0, rv x0), (1, .int x1)]) dX11_out_25 rfl (Nat.le_of_ble_eq_true rfl) rfl ?_
    refine g_aload_n (j := 1) dX11_out_26 rfl rfl ?_
    obtain ⟨v10, ev10, hf⟩ := ob hf
    refine g_getF dX11_out_27 ev10 t_391 hin15 hc15 (by decide) rfl ?_
    refine g_aload_n (j := 0) dX11_out_30 rfl rfl ?_
    refine g_aload_n (j := 1) dX11_out_31 rfl rfl ?_
    obtain ⟨v11, ev11, hf⟩ := ob hf
    refine g_getF dX11_out_32 ev11 t_383 hin15 hc15 (by decide) rfl ?_
    obtain ⟨_, h14, hf⟩ := ob hf
    obtain ⟨σ12, v13, eσ12, hf⟩ := cb_el hf
    refine g_callVN_i dX11_out_35 (wX5_countBelow _ eσ12) (okX5_countBelow _ (by decide) (by decide)) (ckK_el h14) hc9 t_1807 t_1809 s_X5_countBelow rfl (Nat.le_trans (cat_le _) (Nat.le_of_ble_eq_true rfl)) rfl ?_
    refine g_istore_n (i := 3) (L' := [(3, .int v13), (2, rv v9), (0, rv x0), (1, .int x1)]) dX11_out_38 rfl (Nat.le_of_ble_eq_true rfl) (by simp [rv_cat]) ?_
    refine g_aload_n (j := 1) dX11_out_39 rfl rfl ?_
    refine g_iload_n (j := 0) dX11_out_40 rfl rfl ?_
    refine g_aload_n (j := 2) dX11_out_41 rfl rfl ?_
    obtain ⟨v15, ev15, hf⟩ := ob hf
    refine g_getF dX11_out_42 ev15 t_383 hin15 hc15 (by decide) rfl ?_
    obtain ⟨_, h18, hf⟩ := ob hf
    obtain ⟨σ16, v17, eσ16, hf⟩ := cb_el hf
    refine g_callVN_i dX11_out_45 (wX6_countSame _ eσ16) (okX6_countSame _ (by decide) (by decide)) (ckK_el h18) hc10 t_1836 t_1838 s_X6_countSame rfl (Nat.le_trans (cat_le _) (Nat.le_of_ble_eq_true rfl)) rfl ?_
    refine g_if_ne (tgt := 59) dX11_out_48 (by decide) (fun c19 => ?_) (fun c19 => ?_)
    · rw [if_neg c19] at hf
      refine g_aload_n (j := 1) dX11_out_59 rfl rfl ?_
      refine g_iload_n (j := 0) dX11_out_60 rfl rfl ?_
      obtain ⟨_, h22, hf⟩ := ob hf
      obtain ⟨σ20, a21, eσ20, hf⟩ := cb_el hf
      refine g_callVN_q dX11_out_61 (wX6_without _ eσ20) (okX6_without _ (by decide) (by decide)) (ckK_el h22) hc10 t_1841 t_1843 s_X6_without rfl (Nat.le_trans (cat_le _) (Nat.le_of_ble_eq_true rfl)) rfl ?_
      refine g_astore (i := 4) (L' := [(4, rv a21), (3, .int v13), (2, rv v9), (0, rv x0), (1, .int x1)]) dX11_out_64 (Nat.le_of_ble_eq_true rfl) rfl ?_
      refine g_aload_n (j := 3) dX11_out_66 rfl rfl ?_
      refine g_aload_n (j := 3) dX11_out_67 rfl rfl ?_
      obtain ⟨_, h25, hf⟩ := ob hf
      obtain ⟨σ23, a24, eσ23, hf⟩ := cb_el hf
      refine g_callV_q dX11_out_68 (wX11_present _ eσ23) (okX11_present _ (by decide) (by decide)) (ckK_el h25) hc15 t_959 t_961 s_X11_present rfl (Nat.le_trans (cat_le _) (Nat.le_of_ble_eq_true rfl)) rfl ?_
      refine g_iload_n (j := 4) dX11_out_71 rfl rfl ?_
      refine g_aload (j := 0) dX11_out_72 rfl ?_
      obtain ⟨_, h28, hf⟩ := ob hf
      obtain ⟨σ26, a27, eσ26, hf⟩ := cb_el hf
      refine g_callVN_q dX11_out_74 (wX7_withRow _ eσ26) (okX7_withRow _ (by decide) (by decide)) (ckK_el h28) hc11 t_1818 t_1820 s_X7_withRow rfl (Nat.le_trans (cat_le _) (Nat.le_of_ble_eq_true rfl)) rfl ?_
      obtain ⟨_, h31, hf⟩ := ob hf
      obtain ⟨σ29, v30, eσ29, hf⟩ := cb_el hf
      refine g_callV_v dX11_out_77 (wX11_change _ eσ29) (okX11_change _ (by decide) (by decide)) (ckK_el h31) hc15 t_1614 t_1616 s_X11_change rfl (Nat.le_trans (cat_le _) (Nat.le_of_ble_eq_true rfl)) rfl ?_
      refine g_aload (j := 0) dX11_out_80 rfl ?_
      obtain ⟨v32, ev32, hf⟩ := ob hf
      refine g_getFN dX11_out_82 ev32 t_362 hin10 hc10 (by decide) rfl ?_
      obtain ⟨v33, ev33, hf⟩ := ob hf
      refine g_alen dX11_out_85 ev33 ?_
      cases hf
      exact g_iret dX11_out_86 rfl rfl hX2 hX1 rfl
    · rw [if_pos c19] at hf
      cases hf
      exact g_throw (cls := "java/util/NoSuchElementException") (names := ["java/lang/RuntimeException", "java/lang/Exception"]) dX11_out_51 dX11_out_54 dX11_out_55 dX11_out_58 (by decide +kernel) (by decide +kernel) thw_333 thg_333 (by decide) (by decide) hX2 hX1 rfl
  · rw [if_pos c4] at hf
    cases hf
    exact g_throw (cls := "java/lang/IllegalArgumentException") (names := ["java/lang/RuntimeException", "java/lang/Exception"]) dX11_out_8 dX11_out_11 dX11_out_12 dX11_out_15 (by decide +kernel) (by decide +kernel) thw_103 thg_103 (by decide) (by decide) hX2 hX1 rfl

theorem okX11_out (M : Mt) (h1 : 8 + 1 ≤ M.2.2.2.2.1) (h2 : 8 + (5 + 11) + 176 ≤ M.2.2.2.2.2.1) : CallOk M MtX11_out yX11_out 1 := ⟨t_1835, h1, h2, ⟨by decide, by decide⟩, by decide +kernel, t_1⟩
abbrev MtX11_empty : Mt := (cX11_empty, 3, "ExactlySaid", (Option.some Jvm.ClassFile.FieldType.int), 8, 160, false)
set_option maxRecDepth 100000 in
set_option maxHeartbeats 4000000 in
theorem wX11_empty (l : Launch) (hst : l.stackTraces = false) {σ σf : St} {x0 : Nat} {x1 : Int32} {r : (String ⊕ Int32)} (hf : fX11_empty σ x0 x1 = some (σf, r)) : ConT MtX11_empty yX11_empty l σ [rv x0, .int x1] σf (ocI r) := by
  refine ConT.of hst (by decide +kernel) rfl (fun h => absurd (show false = true from h) (by decide)) (by simp only [sl_n, sl_r, sl_i, sl_l]; exact Nat.le_of_ble_eq_true rfl) ?_
  rw [show lv_args 0 [rv x0, .int x1] = [(0, rv x0), (1, .int x1)] by simp only [la_n, la_r, la_i, la_l] <;> rfl]
  have hX1 : ((l, σ, σf, xo (ocI r)) : Xt).2.2.1 = σf := rfl
  have hX2 : ((l, σ, σf, xo (ocI r)) : Xt).2.2.2 = xo (ocI r) := rfl
  generalize ((l, σ, σf, xo (ocI r)) : Xt) = X at hX1 hX2 ⊢
  unfold fX11_empty at hf
  refine g_aload_n (j := 0) dX11_empty_0 rfl rfl ?_
  refine g_iload_n (j := 1) dX11_empty_1 rfl rfl ?_
  obtain ⟨_, h3, hf⟩ := ob hf
  obtain ⟨σ1, v2, eσ1, hf⟩ := cb_el hf
  refine g_callV_i dX11_empty_2 (wX11_isRow _ eσ1) (okX11_isRow _ (by decide) (by decide)) (ckK_el h3) hc15 t_1803 t_1805 s_X11_isRow rfl (Nat.le_trans (cat_le _) (Nat.le_of_ble_eq_true rfl)) rfl ?_
  refine g_if_ne (tgt := 16) dX11_empty_5 (by decide) (fun c4 => ?_) (fun c4 => ?_)
  · rw [if_neg c4] at hf
    refine g_aload_n (j := 0) dX11_empty_16 rfl rfl ?_
    obtain ⟨_, h7, hf⟩ := ob hf
    obtain ⟨σ5, a6, eσ5, hf⟩ := cb_el hf
    refine g_callV_q dX11_empty_17 (wX11_present _ eσ5) (okX11_present _ (by decide) (by decide)) (ckK_el h7) hc15 t_959 t_961 s_X11_present rfl (Nat.le_trans (cat_le _) (Nat.le_of_ble_eq_true rfl)) rfl ?_
    obtain ⟨v8, ev8, hf⟩ := ob hf
    refine g_getFN dX11_empty_20 ev8 t_369 hin11 hc11 (by decide) rfl ?_
    refine g_iload_n (j := 1) dX11_empty_23 rfl rfl ?_
    obtain ⟨v9, ev9, hf⟩ := ob hf
    refine g_aald dX11_empty_24 (by decide) rfl ev9 ?_
    obtain ⟨v10, ev10, hf⟩ := ob hf
    refine g_getFN dX11_empty_25 ev10 t_362 hin10 hc10 (by decide) rfl ?_
    obtain ⟨v11, ev11, hf⟩ := ob hf
    refine g_alen dX11_empty_28 ev11 ?_
    refine g_istore_n (i := 2) (L' := [(2, .int v11), (0, rv x0), (1, .int x1)]) dX11_empty_29 rfl (Nat.le_of_ble_eq_true rfl) rfl ?_
    refine g_aload_n (j := 1) dX11_empty_30 rfl rfl ?_
    refine g_aload_n (j := 1) dX11_empty_31 rfl rfl ?_
    obtain ⟨_, h14, hf⟩ := ob hf
    obtain ⟨σ12, a13, eσ12, hf⟩ := cb_el hf
    refine g_callV_q dX11_empty_32 (wX11_present _ eσ12) (okX11_present _ (by decide) (by decide)) (ckK_el h14) hc15 t_959 t_961 s_X11_present rfl (Nat.le_trans (cat_le _) (Nat.le_of_ble_eq_true rfl)) rfl ?_
    refine g_iload_n (j := 2) dX11_empty_35 rfl rfl ?_
    obtain ⟨σ15, eσ15, hf⟩ := nm_el hf
    obtain ⟨a16, ea16, hf⟩ := nm_el hf
    refine g_new9 dX11_empty_36 hc10 hin10 hty10 hdf10 t_1852 t_351 t_14 eσ15 ea16 ?_
    refine g_dup dX11_empty_39 (rv_cat _) ?_
    refine g_iconst (v := 0) dX11_empty_40 (by decide) ?_
    obtain ⟨_, h19, hf⟩ := ob hf
    obtain ⟨σ17, v18, eσ17, hf⟩ := cb_el hf
    refine g_callIN dX11_empty_41 (wX6_init _ eσ17) (okX6_init _ (by decide) (by decide)) rfl (by rw [ckK_el h19]; decide) rfl t_1853 t_353 rfl (Nat.le_trans (cat_le _) (Nat.le_of_ble_eq_true rfl)) rfl ?_
    obtain ⟨_, h22, hf⟩ := ob hf
    obtain ⟨σ20, a21, eσ20, hf⟩ := cb_el hf
    refine g_callVN_q dX11_empty_44 (wX7_withRow _ eσ20) (okX7_withRow _ (by decide) (by decide)) (ckK_el h22) hc11 t_1818 t_1820 s_X7_withRow rfl (Nat.le_trans (cat_le _) (Nat.le_of_ble_eq_true rfl)) rfl ?_
    obtain ⟨_, h25, hf⟩ := ob hf
    obtain ⟨σ23, v24, eσ23, hf⟩ := cb_el hf
    refine g_callV_v dX11_empty_47 (wX11_change _ eσ23) (okX11_change _ (by decide) (by decide)) (ckK_el h25) hc15 t_1614 t_1616 s_X11_change rfl (Nat.le_trans (cat_le _) (Nat.le_of_ble_eq_true rfl)) rfl ?_
    refine g_iload_n (j := 0) dX11_empty_50 rfl rfl ?_
    cases hf
    exact g_iret dX11_empty_51 rfl rfl hX2 hX1 rfl
  · rw [if_pos c4] at hf
    cases hf
    exact g_throw (cls := "java/lang/IllegalArgumentException") (names := ["java/lang/RuntimeException", "java/lang/Exception"]) dX11_empty_8 dX11_empty_11 dX11_empty_12 dX11_empty_15 (by decide +kernel) (by decide +kernel) thw_103 thg_103 (by decide) (by decide) hX2 hX1 rfl

theorem okX11_empty (M : Mt) (h1 : 8 + 1 ≤ M.2.2.2.2.1) (h2 : 8 + (3 + 11) + 160 ≤ M.2.2.2.2.2.1) : CallOk M MtX11_empty yX11_empty 1 := ⟨t_1851, h1, h2, ⟨by decide, by decide⟩, by decide +kernel, t_1⟩
abbrev MtX11_count : Mt := (cX11_count, 4, "ExactlySaid", (Option.some Jvm.ClassFile.FieldType.int), 8, 176, false)
set_option maxRecDepth 100000 in
set_option maxHeartbeats 4000000 in
theorem wX11_count (l : Launch) (hst : l.stackTraces = false) {σ σf : St} {x0 : Nat} {x1 : Int32} {x2 : Int32} {r : (String ⊕ Int32)} (hf : fX11_count σ x0 x1 x2 = some (σf, r)) : ConT MtX11_count yX11_count l σ [rv x0, .int x1, .int x2] σf (ocI r) := by
  refine ConT.of hst (by decide +kernel) rfl (fun h => absurd (show false = true from h) (by decide)) (by simp only [sl_n, sl_r, sl_i, sl_l]; exact Nat.le_of_ble_eq_true rfl) ?_
  rw [show lv_args 0 [rv x0, .int x1, .int x2] = [(0, rv x0), (1, .int x1), (2, .int x2)] by simp only [la_n, la_r, la_i, la_l] <;> rfl]
  have hX1 : ((l, σ, σf, xo (ocI r)) : Xt).2.2.1 = σf := rfl
  have hX2 : ((l, σ, σf, xo (ocI r)) : Xt).2.2.2 = xo (ocI r) := rfl
  generalize ((l, σ, σf, xo (ocI r)) : Xt) = X at hX1 hX2 ⊢
  unfold fX11_count at hf
  refine g_aload_n (j := 0) dX11_count_0 rfl rfl ?_
  refine g_iload_n (j := 1) dX11_count_1 rfl rfl ?_
  obtain ⟨_, h3, hf⟩ := ob hf
  obtain ⟨σ1, v2, eσ1, hf⟩ := cb_el hf
  refine g_callV_i dX11_count_2 (wX11_isRow _ eσ1) (okX11_isRow _ (by decide) (by decide)) (ckK_el h3) hc15 t_1803 t_1805 s_X11_isRow rfl (Nat.le_trans (cat_le _) (Nat.le_of_ble_eq_true rfl)) rfl ?_
  refine g_if_ne (tgt := 16) dX11_count_5 (by decide) (fun c4 => ?_) (fun c4 => ?_)
  · rw [if_neg c4] at hf
    refine g_aload_n (j := 0) dX11_count_16 rfl rfl ?_
    obtain ⟨v5, ev5, hf⟩ := ob hf
    refine g_getF dX11_count_17 ev5 t_391 hin15 hc15 (by decide) rfl ?_
    refine g_aload_n (j := 0) dX11_count_20 rfl rfl ?_
    obtain ⟨_, h8, hf⟩ := ob hf
    obtain ⟨σ6, a7, eσ6, hf⟩ := cb_el hf
    refine g_callV_q dX11_count_21 (wX11_present _ eσ6) (okX11_present _ (by decide) (by decide)) (ckK_el h8) hc15 t_959 t_961 s_X11_present rfl (Nat.le_trans (cat_le _) (Nat.le_of_ble_eq_true rfl)) rfl ?_
    obtain ⟨v9, ev9, hf⟩ := ob hf
    refine g_getFN dX11_count_24 ev9 t_369 hin11 hc11 (by decide) rfl ?_
    refine g_iload_n (j := 1) dX11_count_27 rfl rfl ?_
    obtain ⟨v10, ev10, hf⟩ := ob hf
    refine g_aald dX11_count_28 (by decide) rfl ev10 ?_
    refine g_aload_n (j := 0) dX11_count_29 rfl rfl ?_
    obtain ⟨v11, ev11, hf⟩ := ob hf
    refine g_getF dX11_count_30 ev11 t_383 hin15 hc15 (by decide) rfl ?_
    obtain ⟨_, h14, hf⟩ := ob hf
    obtain ⟨σ12, v13, eσ12, hf⟩ := cb_el hf
    refine g_callVN_i dX11_count_33 (wX5_countBelow _ eσ12) (okX5_countBelow _ (by decide) (by decide)) (ckK_el h14) hc9 t_1807 t_1809 s_X5_countBelow rfl (Nat.le_trans (cat_le _) (Nat.le_of_ble_eq_true rfl)) rfl ?_
    refine g_istore_n (i := 3) (L' := [(3, .int v13), (0, rv x0), (1, .int x1), (2, .int x2)]) dX11_count_36 rfl (Nat.le_of_ble_eq_true rfl) rfl ?_
    refine g_iload_n (j := 3) dX11_count_37 rfl rfl ?_
    refine g_if_eq (tgt := 61) dX11_count_38 (by decide) (fun c15 => ?_) (fun c15 => ?_)
    · rw [if_pos c15] at hf
      refine g_iload_n (j := 0) dX11_count_61 rfl rfl ?_
      cases hf
      exact g_iret dX11_count_62 rfl rfl hX2 hX1 rfl
    · rw [if_neg c15] at hf
      refine g_aload_n (j := 1) dX11_count_41 rfl rfl ?_
      obtain ⟨_, h18, hf⟩ := ob hf
      obtain ⟨σ16, a17, eσ16, hf⟩ := cb_el hf
      refine g_callV_q dX11_count_42 (wX11_present _ eσ16) (okX11_present _ (by decide) (by decide)) (ckK_el h18) hc15 t_959 t_961 s_X11_present rfl (Nat.le_trans (cat_le _) (Nat.le_of_ble_eq_true rfl)) rfl ?_
      obtain ⟨v19, ev19, hf⟩ := ob hf
      refine g_getFN dX11_count_45 ev19 t_369 hin11 hc11 (by decide) rfl ?_
      refine g_iload_n (j := 2) dX11_count_48 rfl rfl ?_
      obtain ⟨v20, ev20, hf⟩ := ob hf
      refine g_aald dX11_count_49 (by decide) rfl ev20 ?_
      refine g_iload_n (j := 0) dX11_count_50 rfl rfl ?_
      refine g_aload_n (j := 1) dX11_count_51 rfl rfl ?_
      obtain ⟨v21, ev21, hf⟩ := ob hf
      refine g_getF dX11_count_52 ev21 t_383 hin15 hc15 (by decide) rfl ?_
      obtain ⟨_, h24, hf⟩ := ob hf
      obtain ⟨σ22, v23, eσ22, hf⟩ := cb_el hf
      refine g_callVN_i dX11_count_55 (wX6_countSame _ eσ22) (okX6_countSame _ (by decide) (by decide)) (ckK_el h24) hc10 t_1836 t_1838 s_X6_countSame rfl (Nat.le_trans (cat_le _) (Nat.le_of_ble_eq_true rfl)) rfl ?_
      refine g_goto (tgt := 62) dX11_count_58 (by decide) ?_
      cases hf
      exact g_iret dX11_count_62 rfl rfl hX2 hX1 rfl
  · rw [if_pos c4] at hf
    cases hf
    exact g_throw (cls := "java/lang/IllegalArgumentException") (names := ["java/lang/RuntimeException", "java/lang/Exception"]) dX11_count_8 dX11_count_11 dX11_count_12 dX11_count_15 (by decide +kernel) (by decide +kernel) thw_103 thg_103 (by decide) (by decide) hX2 hX1 rfl

theorem okX11_count (M : Mt) (h1 : 8 + 1 ≤ M.2.2.2.2.1) (h2 : 8 + (4 + 11) + 176 ≤ M.2.2.2.2.2.1) : CallOk M MtX11_count yX11_count 2 := ⟨t_1860, h1, h2, ⟨by decide, by decide⟩, by decide +kernel, t_1⟩
abbrev MtX11_takeLeast : Mt := (cX11_takeLeast, 4, "ExactlySaid", (Option.some Jvm.ClassFile.FieldType.int), 8, 160, false)
set_option maxRecDepth 100000 in
set_option maxHeartbeats 4000000 in
theorem bX11_takeLeast_39 {X : Xt} {σf : St} {r : (String ⊕ Int32)} (hX1 : X.2.2.1 = σf) (hX2 : X.2.2.2 = xo (ocI r)) {σ : St} (hf : fX11_takeLeast_39 σ  = some (σf, r)) : G MtX11_takeLeast X σ 39 [] [] := by
  unfold fX11_takeLeast_39 at hf
  cases hf
  exact g_throw (cls := "java/lang/IndexOutOfBoundsException") (names := ["java/lang/RuntimeException", "java/lang/Exception"]) dX11_takeLeast_39 dX11_takeLeast_42 dX11_takeLeast_43 dX11_takeLeast_46 (by decide +kernel) (by decide +kernel) thw_147 thg_147 (by decide) (by decide) hX2 hX1 rfl

set_option maxRecDepth 100000 in
set_option maxHeartbeats 4000000 in
theorem wX11_takeLeast (l : Launch) (hst : l.stackTraces = false) {σ σf : St} {x0 : Nat} {x1 : Int32} {x2 : Int32} {r : (String ⊕ Int32)} (hf : fX11_takeLeast σ x0 x1 x2 = some (σf, r)) : ConT MtX11_takeLeast yX11_takeLeast l σ [rv x0, .int x1, .int x2] σf (ocI r) := by
  refine ConT.of hst (by decide +kernel) rfl (fun h => absurd (show false = true from h) (by decide)) (by simp only [sl_n, sl_r, sl_i, sl_l]; exact Nat.le_of_ble_eq_true rfl) ?_
  rw [show lv_args 0 [rv x0, .int x1, .int x2] = [(0, rv x0), (1, .int x1), (2, .int x2)] by simp only [la_n, la_r, la_i, la_l] <;> rfl]
  have hX1 : ((l, σ, σf, xo (ocI r)) : Xt).2.2.1 = σf := rfl
  have hX2 : ((l, σ, σf, xo (ocI r)) : Xt).2.2.2 = xo (ocI r) := rfl
  generalize ((l, σ, σf, xo (ocI r)) : Xt) = X at hX1 hX2 ⊢
  unfold fX11_takeLeast at hf
  refine g_aload_n (j := 0) dX11_takeLeast_0 rfl rfl ?_
  refine g_iload_n (j := 1) dX11_takeLeast_1 rfl rfl ?_
  obtain ⟨_, h3, hf⟩ := ob hf
  obtain ⟨σ1, v2, eσ1, hf⟩ := cb_el hf
  refine g_callV_i dX11_takeLeast_2 (wX11_isRow _ eσ1) (okX11_isRow _ (by decide) (by decide)) (ckK_el h3) hc15 t_1803 t_1805 s_X11_isRow rfl (Nat.le_trans (cat_le _) (Nat.le_of_ble_eq_true rfl)) rfl ?_
  refine g_if_ne (tgt := 16) dX11_takeLeast_5 (by decide) (fun c4 => ?_) (fun c4 => ?_)
  · rw [if_neg c4] at hf
    refine g_aload_n (j := 0) dX11_takeLeast_16 rfl rfl ?_
    obtain ⟨_, h7, hf⟩ := ob hf
    obtain ⟨σ5, a6, eσ5, hf⟩ := cb_el hf
    refine g_callV_q dX11_takeLeast_17 (wX11_present _ eσ5) (okX11_present _ (by decide) (by decide)) (ckK_el h7) hc15 t_959 t_961 s_X11_present rfl (Nat.le_trans (cat_le _) (Nat.le_of_ble_eq_true rfl)) rfl ?_
    obtain ⟨v8, ev8, hf⟩ := ob hf
    refine g_getFN dX11_takeLeast_20 ev8 t_369 hin11 hc11 (by decide) rfl ?_
    refine g_iload_n (j := 1) dX11_takeLeast_23 rfl rfl ?_
    obtain ⟨v9, ev9, hf⟩ := ob hf
    refine g_aald dX11_takeLeast_24 (by decide) rfl ev9 ?_
    obtain ⟨v10, ev10, hf⟩ := ob hf
    refine g_getFN dX11_takeLeast_25 ev10 t_362 hin10 hc10 (by decide) rfl ?_
    refine g_astore_n (i := 3) (L' := [(3, rv v10), (0, rv x0), (1, .int x1), (2, .int x2)]) dX11_takeLeast_28 rfl (Nat.le_of_ble_eq_true rfl) rfl ?_
    refine g_iload_n (j := 3) dX11_takeLeast_29 rfl rfl ?_
    refine g_if_lt (tgt := 39) dX11_takeLeast_30 (by decide) (fun c11 => ?_) (fun c11 => ?_)
    · rw [if_pos c11] at hf
      refine g_sub (L' := []) [] rfl ?_
      exact bX11_takeLeast_39 hX1 hX2 hf
    · rw [if_neg c11] at hf
      refine g_iload_n (j := 3) dX11_takeLeast_33 rfl rfl ?_
      refine g_aload_n (j := 0) dX11_takeLeast_34 rfl rfl ?_
      obtain ⟨v12, ev12, hf⟩ := ob hf
      refine g_alen dX11_takeLeast_35 ev12 ?_
      refine g_icmp_lt (tgt := 47) dX11_takeLeast_36 (by decide) (fun c13 => ?_) (fun c13 => ?_)
      · rw [if_pos c13] at hf
        refine g_aload_n (j := 1) dX11_takeLeast_47 rfl rfl ?_
        refine g_aload_n (j := 0) dX11_takeLeast_48 rfl rfl ?_
        refine g_iload_n (j := 3) dX11_takeLeast_49 rfl rfl ?_
        obtain ⟨v14, ev14, hf⟩ := ob hf
        refine g_aald dX11_takeLeast_50 (by decide) rfl ev14 ?_
        obtain ⟨σ15, eσ15, hf⟩ := ob hf
        refine g_putF dX11_takeLeast_51 eσ15 (Or.inl t_383) hin15 hc15 (by decide) hty15 hnm15 (Or.inl rfl) rfl ?_
        refine g_aload_n (j := 1) dX11_takeLeast_54 rfl rfl ?_
        obtain ⟨v16, ev16, hf⟩ := ob hf
        refine g_getF dX11_takeLeast_55 ev16 t_383 hin15 hc15 (by decide) rfl ?_
        obtain ⟨v17, ev17, hf⟩ := ob hf
        refine g_getIN dX11_takeLeast_58 ev17 t_75 hin5 hc5 (by decide) rfl ?_
        cases hf
        exact g_iret dX11_takeLeast_61 rfl rfl hX2 hX1 rfl
      · rw [if_neg c13] at hf
        refine g_sub (L' := []) [] rfl ?_
        exact bX11_takeLeast_39 hX1 hX2 hf
  · rw [if_pos c4] at hf
    cases hf
    exact g_throw (cls := "java/lang/IllegalArgumentException") (names := ["java/lang/RuntimeException", "java/lang/Exception"]) dX11_takeLeast_8 dX11_takeLeast_11 dX11_takeLeast_12 dX11_takeLeast_15 (by decide +kernel) (by decide +kernel) thw_103 thg_103 (by decide) (by decide) hX2 hX1 rfl

theorem okX11_takeLeast (M : Mt) (h1 : 8 + 1 ≤ M.2.2.2.2.1) (h2 : 8 + (4 + 11) + 160 ≤ M.2.2.2.2.2.1) : CallOk M MtX11_takeLeast yX11_takeLeast 2 := ⟨t_1867, h1, h2, ⟨by decide, by decide⟩, by decide +kernel, t_1⟩
abbrev MtX11_takeNext : Mt := (cX11_takeNext, 5, "ExactlySaid", (Option.some Jvm.ClassFile.FieldType.int), 8, 176, false)
set_option maxRecDepth 100000 in
set_option maxHeartbeats 4000000 in
theorem wX11_takeNext (l : Launch) (hst : l.stackTraces = false) {σ σf : St} {x0 : Nat} {x1 : Int32} {r : (String ⊕ Int32)} (hf : fX11_takeNext σ x0 x1 = some (σf, r)) : ConT MtX11_takeNext yX11_takeNext l σ [rv x0, .int x1] σf (ocI r) := by
  refine ConT.of hst (by decide +kernel) rfl (fun h => absurd (show false = true from h) (by decide)) (by simp only [sl_n, sl_r, sl_i, sl_l]; exact Nat.le_of_ble_eq_true rfl) ?_
  rw [show lv_args 0 [rv x0, .int x1] = [(0, rv x0), (1, .int x1)] by simp only [la_n, la_r, la_i, la_l] <;> rfl]
  have hX1 : ((l, σ, σf, xo (ocI r)) : Xt).2.2.1 = σf := rfl
  have hX2 : ((l, σ, σf, xo (ocI r)) : Xt).2.2.2 = xo (ocI r) := rfl
  generalize ((l, σ, σf, xo (ocI r)) : Xt) = X at hX1 hX2 ⊢
  unfold fX11_takeNext at hf
  refine g_aload_n (j := 0) dX11_takeNext_0 rfl rfl ?_
  refine g_iload_n (j := 1) dX11_takeNext_1 rfl rfl ?_
  obtain ⟨_, h3, hf⟩ := ob hf
  obtain ⟨σ1, v2, eσ1, hf⟩ := cb_el hf
  refine g_callV_i dX11_takeNext_2 (wX11_isRow _ eσ1) (okX11_isRow _ (by decide) (by decide)) (ckK_el h3) hc15 t_1803 t_1805 s_X11_isRow rfl (Nat.le_trans (cat_le _) (Nat.le_of_ble_eq_true rfl)) rfl ?_
  refine g_if_ne (tgt := 16) dX11_takeNext_5 (by decide) (fun c4 => ?_) (fun c4 => ?_)
  · rw [if_neg c4] at hf
    refine g_aload_n (j := 0) dX11_takeNext_16 rfl rfl ?_
    obtain ⟨_, h7, hf⟩ := ob hf
    obtain ⟨σ5, a6, eσ5, hf⟩ := cb_el hf
    refine g_callV_q dX11_takeNext_17 (wX11_present _ eσ5) (okX11_present _ (by decide) (by decide)) (ckK_el h7) hc15 t_959 t_961 s_X11_present rfl (Nat.le_trans (cat_le _) (Nat.le_of_ble_eq_true rfl)) rfl ?_
    obtain ⟨v8, ev8, hf⟩ := ob hf
    refine g_getFN dX11_takeNext_20 ev8 t_369 hin11 hc11 (by decide) rfl ?_
    refine g_iload_n (j := 1) dX11_takeNext_23 rfl rfl ?_
    obtain ⟨v9, ev9, hf⟩ := ob hf
    refine g_aald dX11_takeNext_24 (by decide) rfl ev9 ?_
    refine g_astore_n (i := 2) (L' := [(2, rv v9), (0, rv x0), (1, .int x1)]) dX11_takeNext_25 rfl (Nat.le_of_ble_eq_true rfl) rfl ?_
    refine g_aload_n (j := 1) dX11_takeNext_26 rfl rfl ?_
    obtain ⟨v10, ev10, hf⟩ := ob hf
    refine g_getF dX11_takeNext_27 ev10 t_391 hin15 hc15 (by decide) rfl ?_
    refine g_aload_n (j := 0) dX11_takeNext_30 rfl rfl ?_
    refine g_aload_n (j := 1) dX11_takeNext_31 rfl rfl ?_
    obtain ⟨v11, ev11, hf⟩ := ob hf
    refine g_getF dX11_takeNext_32 ev11 t_383 hin15 hc15 (by decide) rfl ?_
    obtain ⟨_, h14, hf⟩ := ob hf
    obtain ⟨σ12, v13, eσ12, hf⟩ := cb_el hf
    refine g_callVN_i dX11_takeNext_35 (wX5_countBelow _ eσ12) (okX5_countBelow _ (by decide) (by decide)) (ckK_el h14) hc9 t_1807 t_1809 s_X5_countBelow rfl (Nat.le_trans (cat_le _) (Nat.le_of_ble_eq_true rfl)) rfl ?_
    refine g_istore_n (i := 3) (L' := [(3, .int v13), (2, rv v9), (0, rv x0), (1, .int x1)]) dX11_takeNext_38 rfl (Nat.le_of_ble_eq_true rfl) (by simp [rv_cat]) ?_
    refine g_iload_n (j := 0) dX11_takeNext_39 rfl rfl ?_
    refine g_aload_n (j := 1) dX11_takeNext_40 rfl rfl ?_
    refine g_iload_n (j := 0) dX11_takeNext_41 rfl rfl ?_
    refine g_aload_n (j := 2) dX11_takeNext_42 rfl rfl ?_
    obtain ⟨v15, ev15, hf⟩ := ob hf
    refine g_getF dX11_takeNext_43 ev15 t_383 hin15 hc15 (by decide) rfl ?_
    obtain ⟨_, h18, hf⟩ := ob hf
    obtain ⟨σ16, v17, eσ16, hf⟩ := cb_el hf
    refine g_callVN_i dX11_takeNext_46 (wX6_countSame _ eσ16) (okX6_countSame _ (by decide) (by decide)) (ckK_el h18) hc10 t_1836 t_1838 s_X6_countSame rfl (Nat.le_trans (cat_le _) (Nat.le_of_ble_eq_true rfl)) rfl ?_
    refine g_iadd dX11_takeNext_49 ?_
    obtain ⟨v19, ev19, hf⟩ := nm_el hf
    refine g_topI ev19 ?_
    refine g_istore (i := 4) (L' := [(4, .int v19), (3, .int v13), (2, rv v9), (0, rv x0), (1, .int x1)]) dX11_takeNext_50 (Nat.le_of_ble_eq_true rfl) rfl ?_
    refine g_iload (j := 0) dX11_takeNext_52 rfl ?_
    refine g_aload_n (j := 2) dX11_takeNext_54 rfl rfl ?_
    obtain ⟨v20, ev20, hf⟩ := ob hf
    refine g_getFN dX11_takeNext_55 ev20 t_362 hin10 hc10 (by decide) rfl ?_
    obtain ⟨v21, ev21, hf⟩ := ob hf
    refine g_alen dX11_takeNext_58 ev21 ?_
    refine g_icmp_lt (tgt := 70) dX11_takeNext_59 (by decide) (fun c22 => ?_) (fun c22 => ?_)
    · rw [if_pos c22] at hf
      refine g_aload_n (j := 3) dX11_takeNext_70 rfl rfl ?_
      refine g_aload_n (j := 2) dX11_takeNext_71 rfl rfl ?_
      obtain ⟨v23, ev23, hf⟩ := ob hf
      refine g_getFN dX11_takeNext_72 ev23 t_362 hin10 hc10 (by decide) rfl ?_
      refine g_iload (j := 0) dX11_takeNext_75 rfl ?_
      obtain ⟨v24, ev24, hf⟩ := ob hf
      refine g_aald dX11_takeNext_77 (by decide) rfl ev24 ?_
      obtain ⟨σ25, eσ25, hf⟩ := ob hf
      refine g_putF dX11_takeNext_78 eσ25 (Or.inl t_383) hin15 hc15 (by decide) hty15 hnm15 (Or.inl rfl) rfl ?_
      refine g_aload_n (j := 2) dX11_takeNext_81 rfl rfl ?_
      refine g_iload (j := 0) dX11_takeNext_82 rfl ?_
      refine g_aload_n (j := 3) dX11_takeNext_84 rfl rfl ?_
      obtain ⟨v26, ev26, hf⟩ := ob hf
      refine g_getF dX11_takeNext_85 ev26 t_383 hin15 hc15 (by decide) rfl ?_
      obtain ⟨_, h29, hf⟩ := ob hf
      obtain ⟨σ27, v28, eσ27, hf⟩ := cb_el hf
      refine g_callVN_i dX11_takeNext_88 (wX6_countSame _ eσ27) (okX6_countSame _ (by decide) (by decide)) (ckK_el h29) hc10 t_1836 t_1838 s_X6_countSame rfl (Nat.le_trans (cat_le _) (Nat.le_of_ble_eq_true rfl)) rfl ?_
      cases hf
      exact g_iret dX11_takeNext_91 rfl rfl hX2 hX1 rfl
    · rw [if_neg c22] at hf
      cases hf
      exact g_throw (cls := "java/util/NoSuchElementException") (names := ["java/lang/RuntimeException", "java/lang/Exception"]) dX11_takeNext_62 dX11_takeNext_65 dX11_takeNext_66 dX11_takeNext_69 (by decide +kernel) (by decide +kernel) thw_333 thg_333 (by decide) (by decide) hX2 hX1 rfl
  · rw [if_pos c4] at hf
    cases hf
    exact g_throw (cls := "java/lang/IllegalArgumentException") (names := ["java/lang/RuntimeException", "java/lang/Exception"]) dX11_takeNext_8 dX11_takeNext_11 dX11_takeNext_12 dX11_takeNext_15 (by decide +kernel) (by decide +kernel) thw_103 thg_103 (by decide) (by decide) hX2 hX1 rfl

theorem okX11_takeNext (M : Mt) (h1 : 8 + 1 ≤ M.2.2.2.2.1) (h2 : 8 + (5 + 11) + 176 ≤ M.2.2.2.2.2.1) : CallOk M MtX11_takeNext yX11_takeNext 1 := ⟨t_1874, h1, h2, ⟨by decide, by decide⟩, by decide +kernel, t_1⟩
abbrev MtX5_totalOf : Mt := (cX5_totalOf, 7, "ExactlySaid$Reckoner", (Option.some (Jvm.ClassFile.FieldType.object "ExactlySaid$Fraction")), 6, 251, false)
set_option maxRecDepth 100000 in
set_option maxHeartbeats 4000000 in
theorem bX5_totalOf_80 {X : Xt} {σf : St} {r : Nat} (hX1 : X.2.2.1 = σf) (hX2 : X.2.2.2 = .inl (some (rv r))) {k43 : St → Nat → Nat → Int32 → Nat → Nat → Int32 → Option (St × Nat)} (hk43 : ∀ (σ : St) (x0 : Nat) (x1 : Nat) (x2 : Int32) (x3 : Nat) (x4 : Nat) (x5 : Int32), k43 σ x0 x1 x2 x3 x4 x5 = some (σf, r) → G MtX5_totalOf X σ 43 [(0, rv x0), (1, rv x1), (2, .int x2), (3, rv x3), (4, rv x4), (5, .int x5)] []) {σ : St} {x0 : Nat} {x1 : Nat} {x2 : Int32} {x3 : Nat} {x4 : Nat} {x5 : Int32} (hf : fX5_totalOf_80 k43 σ x0 x1 x2 x3 x4 x5 = some (σf, r)) : G MtX5_totalOf X σ 80 [(0, rv x0), (1, rv x1), (2, .int x2), (3, rv x3), (4, rv x4), (5, .int x5)] [] := by
  unfold fX5_totalOf_80 at hf
  refine g_aload_n (j := 3) dX5_totalOf_80 rfl rfl ?_
  refine g_astore (i := 6) (L' := [(6, rv x3), (0, rv x0), (1, rv x1), (2, .int x2), (3, rv x3), (4, rv x4), (5, .int x5)]) dX5_totalOf_81 (Nat.le_of_ble_eq_true rfl) rfl ?_
  refine g_aload (j := 5) dX5_totalOf_83 rfl ?_
  refine g_astore_n (i := 3) (L' := [(3, rv x4), (6, rv x3), (0, rv x0), (1, rv x1), (2, .int x2), (4, rv x4), (5, .int x5)]) dX5_totalOf_85 rfl (Nat.le_of_ble_eq_true rfl) rfl ?_
  refine g_aload (j := 1) dX5_totalOf_86 rfl ?_
  refine g_astore (i := 4) (L' := [(4, rv x3), (3, rv x4), (6, rv x3), (0, rv x0), (1, rv x1), (2, .int x2), (5, .int x5)]) dX5_totalOf_88 (Nat.le_of_ble_eq_true rfl) (by simp [rv_cat]) ?_
  obtain ⟨v1, ev1, hf⟩ := nm_el hf
  refine g_iinc (L' := [(5, .int v1), (4, rv x3), (3, rv x4), (6, rv x3), (0, rv x0), (1, rv x1), (2, .int x2)]) (j := 6) (v := v1) dX5_totalOf_90 rfl (by rw [ev1]; rfl) (Nat.le_of_ble_eq_true rfl) (by simp [rv_cat]) ?_
  refine g_goto (tgt := 43) dX5_totalOf_93 (by decide) ?_
  refine g_sub (L' := [(0, rv x0), (1, rv x1), (2, .int x2), (3, rv x4), (4, rv x3), (5, .int v1)]) [4, 5, 6, 2, 1, 0] rfl ?_
  exact hk43 _ _ _ _ _ _ _ hf

set_option maxRecDepth 100000 in
set_option maxHeartbeats 4000000 in
theorem bX5_totalOf_43 {X : Xt} {σf : St} {r : Nat} (hX1 : X.2.2.1 = σf) (hX2 : X.2.2.2 = .inl (some (rv r))) : ∀ (n : Nat) (σ : St) (x0 : Nat) (x1 : Nat) (x2 : Int32) (x3 : Nat) (x4 : Nat) (x5 : Int32), fX5_totalOf_43 n σ x0 x1 x2 x3 x4 x5 = some (σf, r) → G MtX5_totalOf X σ 43 [(0, rv x0), (1, rv x1), (2, .int x2), (3, rv x3), (4, rv x4), (5, .int x5)] [] := by
  intro n
  induction n with
  | zero => intro σ x0 x1 x2 x3 x4 x5 hf; cases hf
  | succ n ih =>
    intro σ x0 x1 x2 x3 x4 x5 hf
    rw [fX5_totalOf_43] at hf
    refine g_iload (j := 5) dX5_totalOf_43 rfl ?_
    refine g_aload_n (j := 1) dX5_totalOf_45 rfl rfl ?_
    obtain ⟨v1, ev1, hf⟩ := ob hf
    refine g_alen dX5_totalOf_46 ev1 ?_
    refine g_icmp_ge (tgt := 96) dX5_totalOf_47 (by decide) (fun c2 => ?_) (fun c2 => ?_)
    · rw [if_pos c2] at hf
      refine g_aload_n (j := 3) dX5_totalOf_96 rfl rfl ?_
      exact g_aret dX5_totalOf_97 rfl rfl hX2 hX1 hf
    · rw [if_neg c2] at hf
      refine g_iload_n (j := 2) dX5_totalOf_50 rfl rfl ?_
      refine g_if_eq (tgt := 68) dX5_totalOf_51 (by decide) (fun c3 => ?_) (fun c3 => ?_)
      · rw [if_pos c3] at hf
        refine g_aload_n (j := 0) dX5_totalOf_68 rfl rfl ?_
        refine g_aload_n (j := 3) dX5_totalOf_69 rfl rfl ?_
        refine g_aload_n (j := 1) dX5_totalOf_70 rfl rfl ?_
        refine g_iload (j := 5) dX5_totalOf_71 rfl ?_
        obtain ⟨v4, ev4, hf⟩ := ob hf
        refine g_aald dX5_totalOf_73 (by decide) rfl ev4 ?_
        refine g_iconst (v := 0) dX5_totalOf_74 (by decide) ?_
        refine g_aload (j := 4) dX5_totalOf_75 rfl ?_
        obtain ⟨_, h7, hf⟩ := ob hf
        obtain ⟨σ5, v6, eσ5, hf⟩ := cb_el hf
        refine g_callV_v dX5_totalOf_77 (wX5_add _ eσ5) (okX5_add _ (by decide) (by decide)) (ckK_el h7) hc9 t_1049 t_1051 s_X5_add rfl (Nat.le_trans (cat_le _) (Nat.le_of_ble_eq_true rfl)) rfl ?_
        exact bX5_totalOf_80 hX1 hX2 (fun σ x0 x1 x2 x3 x4 x5 hf => ih σ x0 x1 x2 x3 x4 x5 hf) hf
      · rw [if_neg c3] at hf
        refine g_aload_n (j := 0) dX5_totalOf_54 rfl rfl ?_
        refine g_aload_n (j := 3) dX5_totalOf_55 rfl rfl ?_
        refine g_aload_n (j := 1) dX5_totalOf_56 rfl rfl ?_
        refine g_iload (j := 5) dX5_totalOf_57 rfl ?_
        obtain ⟨v8, ev8, hf⟩ := ob hf
        refine g_aald dX5_totalOf_59 (by decide) rfl ev8 ?_
        refine g_aload (j := 4) dX5_totalOf_60 rfl ?_
        obtain ⟨_, h11, hf⟩ := ob hf
        obtain ⟨σ9, v10, eσ9, hf⟩ := cb_el hf
        refine g_callV_v dX5_totalOf_62 (wX5_multiply _ eσ9) (okX5_multiply _ (by decide) (by decide)) (ckK_el h11) hc9 t_1229 t_1160 s_X5_multiply rfl (Nat.le_trans (cat_le _) (Nat.le_of_ble_eq_true rfl)) rfl ?_
        refine g_goto (tgt := 80) dX5_totalOf_65 (by decide) ?_
        exact bX5_totalOf_80 hX1 hX2 (fun σ x0 x1 x2 x3 x4 x5 hf => ih σ x0 x1 x2 x3 x4 x5 hf) hf

set_option maxRecDepth 100000 in
set_option maxHeartbeats 4000000 in
theorem bX5_totalOf_24 {X : Xt} {σf : St} {r : Nat} (hX1 : X.2.2.1 = σf) (hX2 : X.2.2.2 = .inl (some (rv r))) {σ : St} {x0 : Nat} {x1 : Nat} {x2 : Int32} {x3 : Nat} {x4 : Nat} {y0 : Nat} {y1 : Int64} (hf : fX5_totalOf_24 σ x0 x1 x2 x3 x4 y0 y1 = some (σf, r)) : G MtX5_totalOf X σ 24 [(0, rv x0), (1, rv x1), (2, .int x2), (3, rv x3), (4, rv x4)] [.long y1, rv y0] := by
  unfold fX5_totalOf_24 at hf
  obtain ⟨_, h3, hf⟩ := ob hf
  obtain ⟨σ1, v2, eσ1, hf⟩ := cb_el hf
  refine g_callVN_v dX5_totalOf_24 (wX3_setSmall _ eσ1) (okX3_setSmall _ (by decide) (by decide)) (ckK_el h3) hc7 t_895 t_69 s_X3_setSmall rfl (Nat.le_trans (cat_le _) (Nat.le_of_ble_eq_true rfl)) rfl ?_
  refine g_aload_n (j := 3) dX5_totalOf_27 rfl rfl ?_
  obtain ⟨v4, ev4, hf⟩ := ob hf
  refine g_getFN dX5_totalOf_28 ev4 t_82 hin5 hc5 (by decide) rfl ?_
  refine g_lconst (v := 1) dX5_totalOf_31 (by decide) ?_
  obtain ⟨_, h7, hf⟩ := ob hf
  obtain ⟨σ5, v6, eσ5, hf⟩ := cb_el hf
  refine g_callVN_v dX5_totalOf_32 (wX3_setSmall _ eσ5) (okX3_setSmall _ (by decide) (by decide)) (ckK_el h7) hc7 t_895 t_69 s_X3_setSmall rfl (Nat.le_trans (cat_le _) (Nat.le_of_ble_eq_true rfl)) rfl ?_
  refine g_aload_n (j := 3) dX5_totalOf_35 rfl rfl ?_
  refine g_iconst (v := 1) dX5_totalOf_36 (by decide) ?_
  obtain ⟨_, h10, hf⟩ := ob hf
  obtain ⟨σ8, v9, eσ8, hf⟩ := cb_el hf
  refine g_callVN_v dX5_totalOf_37 (wX1_setSign _ eσ8) (okX1_setSign _ (by decide) (by decide)) (ckK_el h10) hc5 t_1026 t_1028 s_X1_setSign rfl (Nat.le_trans (cat_le _) (Nat.le_of_ble_eq_true rfl)) rfl ?_
  refine g_iconst (v := 0) dX5_totalOf_40 (by decide) ?_
  refine g_istore (i := 5) (L' := [(5, .int 0), (0, rv x0), (1, rv x1), (2, .int x2), (3, rv x3), (4, rv x4)]) dX5_totalOf_41 (Nat.le_of_ble_eq_true rfl) (by simp [rv_cat]) ?_
  refine g_sub (L' := [(0, rv x0), (1, rv x1), (2, .int x2), (3, rv x3), (4, rv x4), (5, .int 0)]) [1, 2, 3, 4, 5, 0] rfl ?_
  exact bX5_totalOf_43 hX1 hX2 FU _ _ _ _ _ _ _ hf

set_option maxRecDepth 100000 in
set_option maxHeartbeats 4000000 in
theorem wX5_totalOf (l : Launch) {σ σf : St} {x0 : Nat} {x1 : Nat} {x2 : Int32} {r : Nat} (hf : fX5_totalOf σ x0 x1 x2 = some (σf, r)) : Con MtX5_totalOf yX5_totalOf l σ [rv x0, rv x1, .int x2] σf (some (rv r)) := by
  refine Con.of (by decide +kernel) rfl (fun h => absurd (show false = true from h) (by decide)) (by simp only [sl_n, sl_r, sl_i, sl_l]; exact Nat.le_of_ble_eq_true rfl) ?_
  rw [show lv_args 0 [rv x0, rv x1, .int x2] = [(0, rv x0), (1, rv x1), (2, .int x2)] by simp only [la_n, la_r, la_i, la_l] <;> rfl]
  have hX1 : ((l, σ, σf, .inl (some (rv r))) : Xt).2.2.1 = σf := rfl
  have hX2 : ((l, σ, σf, .inl (some (rv r))) : Xt).2.2.2 = .inl (some (rv r)) := rfl
  unfold fX5_totalOf at hf
  refine g_aload_n (j := 0) dX5_totalOf_0 rfl rfl ?_
  obtain ⟨v1, ev1, hf⟩ := ob hf
  refine g_getF dX5_totalOf_1 ev1 t_173 hin9 hc9 (by decide) rfl ?_
  refine g_astore_n (i := 3) (L' := [(3, rv v1), (0, rv x0), (1, rv x1), (2, .int x2)]) dX5_totalOf_4 rfl (Nat.le_of_ble_eq_true rfl) rfl ?_
  refine g_aload_n (j := 1) dX5_totalOf_5 rfl rfl ?_
  obtain ⟨v2, ev2, hf⟩ := ob hf
  refine g_getF dX5_totalOf_6 ev2 t_174 hin9 hc9 (by decide) rfl ?_
  refine g_astore (i := 4) (L' := [(4, rv v2), (3, rv v1), (0, rv x0), (1, rv x1), (2, .int x2)]) dX5_totalOf_9 (Nat.le_of_ble_eq_true rfl) (by simp [rv_cat]) ?_
  refine g_aload_n (j := 1) dX5_totalOf_11 rfl rfl ?_
  obtain ⟨v3, ev3, hf⟩ := ob hf
  refine g_getFN dX5_totalOf_12 ev3 t_77 hin5 hc5 (by decide) rfl ?_
  refine g_iload_n (j := 4) dX5_totalOf_15 rfl rfl ?_
  refine g_if_eq (tgt := 23) dX5_totalOf_16 (by decide) (fun c4 => ?_) (fun c4 => ?_)
  · rw [if_pos c4] at hf
    refine g_lconst (v := 0) dX5_totalOf_23 (by decide) ?_
    refine g_sub (L' := [(0, rv x0), (1, rv x1), (2, .int x2), (3, rv v1), (4, rv v2)]) [2, 3, 4, 1, 0] rfl ?_
    exact bX5_totalOf_24 hX1 hX2 hf
  · rw [if_neg c4] at hf
    refine g_lconst (v := 1) dX5_totalOf_19 (by decide) ?_
    refine g_goto (tgt := 24) dX5_totalOf_20 (by decide) ?_
    refine g_sub (L' := [(0, rv x0), (1, rv x1), (2, .int x2), (3, rv v1), (4, rv v2)]) [2, 3, 4, 1, 0] rfl ?_
    exact bX5_totalOf_24 hX1 hX2 hf

theorem okX5_totalOf (M : Mt) (h1 : 6 + 1 ≤ M.2.2.2.2.1) (h2 : 8 + (7 + 11) + 251 ≤ M.2.2.2.2.2.1) : CallOk M MtX5_totalOf yX5_totalOf 2 := ⟨t_1889, h1, h2, ⟨by decide, by decide⟩, by decide +kernel, t_9⟩
abbrev MtX5_meanOf : Mt := (cX5_meanOf, 2, "ExactlySaid$Reckoner", (Option.some (Jvm.ClassFile.FieldType.object "ExactlySaid$Fraction")), 7, 277, false)
set_option maxRecDepth 100000 in
set_option maxHeartbeats 4000000 in
theorem wX5_meanOf (l : Launch) {σ σf : St} {x0 : Nat} {x1 : Nat} {r : Nat} (hf : fX5_meanOf σ x0 x1 = some (σf, r)) : Con MtX5_meanOf yX5_meanOf l σ [rv x0, rv x1] σf (some (rv r)) := by
  refine Con.of (by decide +kernel) rfl (fun h => absurd (show false = true from h) (by decide)) (by simp only [sl_n, sl_r, sl_i, sl_l]; exact Nat.le_of_ble_eq_true rfl) ?_
  rw [show lv_args 0 [rv x0, rv x1] = [(0, rv x0), (1, rv x1)] by simp only [la_n, la_r, la_i, la_l] <;> rfl]
  have hX1 : ((l, σ, σf, .inl (some (rv r))) : Xt).2.2.1 = σf := rfl
  have hX2 : ((l, σ, σf, .inl (some (rv r))) : Xt).2.2.2 = .inl (some (rv r)) := rfl
  unfold fX5_meanOf at hf
  refine g_aload_n (j := 0) dX5_meanOf_0 rfl rfl ?_
  obtain ⟨v1, ev1, hf⟩ := ob hf
  refine g_getF dX5_meanOf_1 ev1 t_175 hin9 hc9 (by decide) rfl ?_
  refine g_aload_n (j := 0) dX5_meanOf_4 rfl rfl ?_
  refine g_aload_n (j := 1) dX5_meanOf_5 rfl rfl ?_
  refine g_iconst (v := 0) dX5_meanOf_6 (by decide) ?_
  obtain ⟨_, h4, hf⟩ := ob hf
  obtain ⟨σ2, a3, eσ2, hf⟩ := cb_el hf
  refine g_callV_q dX5_meanOf_7 (wX5_totalOf _ eσ2) (okX5_totalOf _ (by decide) (by decide)) (ckK_el h4) hc9 t_1886 t_1888 s_X5_totalOf rfl (Nat.le_trans (cat_le _) (Nat.le_of_ble_eq_true rfl)) rfl ?_
  obtain ⟨_, h7, hf⟩ := ob hf
  obtain ⟨σ5, v6, eσ5, hf⟩ := cb_el hf
  refine g_callVN_v dX5_meanOf_10 (wX1_setTo _ eσ5) (okX1_setTo _ (by decide) (by decide)) (ckK_el h7) hc5 t_1044 t_1046 s_X1_setTo rfl (Nat.le_trans (cat_le _) (Nat.le_of_ble_eq_true rfl)) rfl ?_
  refine g_aload_n (j := 0) dX5_meanOf_13 rfl rfl ?_
  obtain ⟨v8, ev8, hf⟩ := ob hf
  refine g_getF dX5_meanOf_14 ev8 t_172 hin9 hc9 (by decide) rfl ?_
  obtain ⟨v9, ev9, hf⟩ := ob hf
  refine g_getFN dX5_meanOf_17 ev9 t_77 hin5 hc5 (by decide) rfl ?_
  refine g_lconst (v := 1) dX5_meanOf_20 (by decide) ?_
  obtain ⟨_, h12, hf⟩ := ob hf
  obtain ⟨σ10, v11, eσ10, hf⟩ := cb_el hf
  refine g_callVN_v dX5_meanOf_21 (wX3_setSmall _ eσ10) (okX3_setSmall _ (by decide) (by decide)) (ckK_el h12) hc7 t_895 t_69 s_X3_setSmall rfl (Nat.le_trans (cat_le _) (Nat.le_of_ble_eq_true rfl)) rfl ?_
  refine g_aload_n (j := 0) dX5_meanOf_24 rfl rfl ?_
  obtain ⟨v13, ev13, hf⟩ := ob hf
  refine g_getF dX5_meanOf_25 ev13 t_172 hin9 hc9 (by decide) rfl ?_
  obtain ⟨v14, ev14, hf⟩ := ob hf
  refine g_getFN dX5_meanOf_28 ev14 t_82 hin5 hc5 (by decide) rfl ?_
  refine g_aload_n (j := 1) dX5_meanOf_31 rfl rfl ?_
  obtain ⟨v15, ev15, hf⟩ := ob hf
  refine g_alen dX5_meanOf_32 ev15 ?_
  refine g_iconst (v := 1) dX5_meanOf_33 (by decide) ?_
  refine g_mmax dX5_meanOf_34 t_875 t_357 t_15 t_358 (by decide) (by decide) (Nat.le_of_ble_eq_true rfl) ?_
  refine g_i2l dX5_meanOf_37 rfl ?_
  obtain ⟨_, h18, hf⟩ := ob hf
  obtain ⟨σ16, v17, eσ16, hf⟩ := cb_el hf
  refine g_callVN_v dX5_meanOf_38 (wX3_setSmall _ eσ16) (okX3_setSmall _ (by decide) (by decide)) (ckK_el h18) hc7 t_895 t_69 s_X3_setSmall rfl (Nat.le_trans (cat_le _) (Nat.le_of_ble_eq_true rfl)) rfl ?_
  refine g_aload_n (j := 0) dX5_meanOf_41 rfl rfl ?_
  obtain ⟨v19, ev19, hf⟩ := ob hf
  refine g_getF dX5_meanOf_42 ev19 t_172 hin9 hc9 (by decide) rfl ?_
  refine g_iconst (v := 1) dX5_meanOf_45 (by decide) ?_
  obtain ⟨σ20, eσ20, hf⟩ := ob hf
  refine g_putI dX5_meanOf_46 eσ20 (Or.inr ⟨_, t_73⟩) hin5 hc5 (by decide) hty5 hnm5 (Or.inl rfl) rfl rfl rfl ?_
  refine g_aload_n (j := 0) dX5_meanOf_49 rfl rfl ?_
  refine g_aload_n (j := 0) dX5_meanOf_50 rfl rfl ?_
  obtain ⟨v21, ev21, hf⟩ := ob hf
  refine g_getF dX5_meanOf_51 ev21 t_175 hin9 hc9 (by decide) rfl ?_
  refine g_aload_n (j := 0) dX5_meanOf_54 rfl rfl ?_
  obtain ⟨v22, ev22, hf⟩ := ob hf
  refine g_getF dX5_meanOf_55 ev22 t_172 hin9 hc9 (by decide) rfl ?_
  refine g_aload_n (j := 0) dX5_meanOf_58 rfl rfl ?_
  obtain ⟨v23, ev23, hf⟩ := ob hf
  refine g_getF dX5_meanOf_59 ev23 t_173 hin9 hc9 (by decide) rfl ?_
  obtain ⟨_, h26, hf⟩ := ob hf
  obtain ⟨σ24, v25, eσ24, hf⟩ := cb_el hf
  refine g_callV_v dX5_meanOf_62 (wX5_multiply _ eσ24) (okX5_multiply _ (by decide) (by decide)) (ckK_el h26) hc9 t_1229 t_1160 s_X5_multiply rfl (Nat.le_trans (cat_le _) (Nat.le_of_ble_eq_true rfl)) rfl ?_
  refine g_aload_n (j := 0) dX5_meanOf_65 rfl rfl ?_
  obtain ⟨v27, ev27, hf⟩ := ob hf
  refine g_getF dX5_meanOf_66 ev27 t_173 hin9 hc9 (by decide) rfl ?_
  exact g_aret dX5_meanOf_69 rfl rfl hX2 hX1 hf

theorem okX5_meanOf (M : Mt) (h1 : 7 + 1 ≤ M.2.2.2.2.1) (h2 : 8 + (2 + 11) + 277 ≤ M.2.2.2.2.2.1) : CallOk M MtX5_meanOf yX5_meanOf 1 := ⟨t_1885, h1, h2, ⟨by decide, by decide⟩, by decide +kernel, t_9⟩
abbrev MtX11_takeAll : Mt := (cX11_takeAll, 5, "ExactlySaid", (Option.some Jvm.ClassFile.FieldType.int), 8, 298, false)
set_option maxRecDepth 100000 in
set_option maxHeartbeats 4000000 in
theorem bX11_takeAll_17 {X : Xt} {σf : St} {r : (String ⊕ Int32)} (hX1 : X.2.2.1 = σf) (hX2 : X.2.2.2 = xo (ocI r)) {σ : St} (hf : fX11_takeAll_17 σ  = some (σf, r)) : G MtX11_takeAll X σ 17 [] [] := by
  unfold fX11_takeAll_17 at hf
  cases hf
  exact g_throw (cls := "java/lang/IllegalArgumentException") (names := ["java/lang/RuntimeException", "java/lang/Exception"]) dX11_takeAll_17 dX11_takeAll_20 dX11_takeAll_21 dX11_takeAll_24 (by decide +kernel) (by decide +kernel) thw_103 thg_103 (by decide) (by decide) hX2 hX1 rfl

set_option maxRecDepth 100000 in
set_option maxHeartbeats 4000000 in
theorem bX11_takeAll_90 {X : Xt} {σf : St} {r : (String ⊕ Int32)} (hX1 : X.2.2.1 = σf) (hX2 : X.2.2.2 = xo (ocI r)) {σ : St} {x0 : Nat} {y0 : Nat} (hf : fX11_takeAll_90 σ x0 y0 = some (σf, r)) : G MtX11_takeAll X σ 90 [(0, rv x0)] [rv y0] := by
  unfold fX11_takeAll_90 at hf
  refine g_astore (i := 4) (L' := [(4, rv y0), (0, rv x0)]) dX11_takeAll_90 (Nat.le_of_ble_eq_true rfl) rfl ?_
  refine g_aload (j := 0) dX11_takeAll_92 rfl ?_
  obtain ⟨_, h3, hf⟩ := ob hf
  obtain ⟨σ1, v2, eσ1, hf⟩ := cb_el hf
  refine g_callVN_i dX11_takeAll_94 (wX1_fits _ eσ1) (okX1_fits _ (by decide) (by decide)) (ckK_el h3) hc5 t_1891 t_1072 s_X1_fits rfl (Nat.le_trans (cat_le _) (Nat.le_of_ble_eq_true rfl)) rfl ?_
  refine g_if_ne (tgt := 108) dX11_takeAll_97 (by decide) (fun c4 => ?_) (fun c4 => ?_)
  · rw [if_neg c4] at hf
    refine g_aload_n (j := 1) dX11_takeAll_108 rfl rfl ?_
    refine g_aload (j := 0) dX11_takeAll_109 rfl ?_
    obtain ⟨_, h7, hf⟩ := ob hf
    obtain ⟨σ5, v6, eσ5, hf⟩ := cb_el hf
    refine g_callV_i dX11_takeAll_111 (wX11_takeCopy _ eσ5) (okX11_takeCopy _ (by decide) (by decide)) (ckK_el h7) hc15 t_1755 t_1757 s_X11_takeCopy rfl (Nat.le_trans (cat_le _) (Nat.le_of_ble_eq_true rfl)) rfl ?_
    cases hf
    exact g_iret dX11_takeAll_114 rfl rfl hX2 hX1 rfl
  · rw [if_pos c4] at hf
    cases hf
    exact g_throw (cls := "java/lang/ArithmeticException") (names := ["java/lang/RuntimeException", "java/lang/Exception"]) dX11_takeAll_100 dX11_takeAll_103 dX11_takeAll_104 dX11_takeAll_107 (by decide +kernel) (by decide +kernel) thw_113 thg_113 (by decide) (by decide) hX2 hX1 rfl

set_option maxRecDepth 100000 in
set_option maxHeartbeats 4000000 in
theorem bX11_takeAll_87 {X : Xt} {σf : St} {r : (String ⊕ Int32)} (hX1 : X.2.2.1 = σf) (hX2 : X.2.2.2 = xo (ocI r)) {σ : St} {x0 : Nat} {y0 : Nat} {y1 : Nat} {y2 : Int32} (hf : fX11_takeAll_87 σ x0 y0 y1 y2 = some (σf, r)) : G MtX11_takeAll X σ 87 [(0, rv x0)] [.int y2, rv y1, rv y0] := by
  unfold fX11_takeAll_87 at hf
  obtain ⟨_, h3, hf⟩ := ob hf
  obtain ⟨σ1, a2, eσ1, hf⟩ := cb_el hf
  refine g_callVN_q dX11_takeAll_87 (wX5_totalOf _ eσ1) (okX5_totalOf _ (by decide) (by decide)) (ckK_el h3) hc9 t_1890 t_1888 s_X5_totalOf rfl (Nat.le_trans (cat_le _) (Nat.le_of_ble_eq_true rfl)) rfl ?_
  exact bX11_takeAll_90 hX1 hX2 hf

set_option maxRecDepth 100000 in
set_option maxHeartbeats 4000000 in
theorem bX11_takeAll_56 {X : Xt} {σf : St} {r : (String ⊕ Int32)} (hX1 : X.2.2.1 = σf) (hX2 : X.2.2.2 = xo (ocI r)) {σ : St} {x0 : Nat} {x2 : Int32} {x3 : Nat} (hf : fX11_takeAll_56 σ x0 x2 x3 = some (σf, r)) : G MtX11_takeAll X σ 56 [(0, rv x0), (2, .int x2), (3, rv x3)] [] := by
  unfold fX11_takeAll_56 at hf
  refine g_iload_n (j := 1) dX11_takeAll_56 rfl rfl ?_
  refine g_iconst (v := 2) dX11_takeAll_57 (by decide) ?_
  refine g_icmp_ne (tgt := 72) dX11_takeAll_58 (by decide) (fun c1 => ?_) (fun c1 => ?_)
  · rw [if_neg c1] at hf
    refine g_aload_n (j := 0) dX11_takeAll_72 rfl rfl ?_
    obtain ⟨v2, ev2, hf⟩ := ob hf
    refine g_getF dX11_takeAll_73 ev2 t_391 hin15 hc15 (by decide) rfl ?_
    refine g_aload_n (j := 2) dX11_takeAll_76 rfl rfl ?_
    refine g_iload_n (j := 1) dX11_takeAll_77 rfl rfl ?_
    refine g_iconst (v := 1) dX11_takeAll_78 (by decide) ?_
    refine g_icmp_ne (tgt := 86) dX11_takeAll_79 (by decide) (fun c3 => ?_) (fun c3 => ?_)
    · rw [if_neg c3] at hf
      refine g_iconst (v := 0) dX11_takeAll_86 (by decide) ?_
      refine g_sub (L' := [(0, rv x0)]) [0] rfl ?_
      exact bX11_takeAll_87 hX1 hX2 hf
    · rw [if_pos c3] at hf
      refine g_iconst (v := 1) dX11_takeAll_82 (by decide) ?_
      refine g_goto (tgt := 87) dX11_takeAll_83 (by decide) ?_
      refine g_sub (L' := [(0, rv x0)]) [0] rfl ?_
      exact bX11_takeAll_87 hX1 hX2 hf
  · rw [if_pos c1] at hf
    refine g_aload_n (j := 0) dX11_takeAll_61 rfl rfl ?_
    obtain ⟨v4, ev4, hf⟩ := ob hf
    refine g_getF dX11_takeAll_62 ev4 t_391 hin15 hc15 (by decide) rfl ?_
    refine g_aload_n (j := 2) dX11_takeAll_65 rfl rfl ?_
    obtain ⟨_, h7, hf⟩ := ob hf
    obtain ⟨σ5, a6, eσ5, hf⟩ := cb_el hf
    refine g_callVN_q dX11_takeAll_66 (wX5_meanOf _ eσ5) (okX5_meanOf _ (by decide) (by decide)) (ckK_el h7) hc9 t_1882 t_1884 s_X5_meanOf rfl (Nat.le_trans (cat_le _) (Nat.le_of_ble_eq_true rfl)) rfl ?_
    refine g_goto (tgt := 90) dX11_takeAll_69 (by decide) ?_
    refine g_sub (L' := [(0, rv x0)]) [0] rfl ?_
    exact bX11_takeAll_90 hX1 hX2 hf

set_option maxRecDepth 100000 in
set_option maxHeartbeats 4000000 in
theorem wX11_takeAll (l : Launch) (hst : l.stackTraces = false) {σ σf : St} {x0 : Nat} {x1 : Int32} {x2 : Int32} {r : (String ⊕ Int32)} (hf : fX11_takeAll σ x0 x1 x2 = some (σf, r)) : ConT MtX11_takeAll yX11_takeAll l σ [rv x0, .int x1, .int x2] σf (ocI r) := by
  refine ConT.of hst (by decide +kernel) rfl (fun h => absurd (show false = true from h) (by decide)) (by simp only [sl_n, sl_r, sl_i, sl_l]; exact Nat.le_of_ble_eq_true rfl) ?_
  rw [show lv_args 0 [rv x0, .int x1, .int x2] = [(0, rv x0), (1, .int x1), (2, .int x2)] by simp only [la_n, la_r, la_i, la_l] <;> rfl]
  have hX1 : ((l, σ, σf, xo (ocI r)) : Xt).2.2.1 = σf := rfl
  have hX2 : ((l, σ, σf, xo (ocI r)) : Xt).2.2.2 = xo (ocI r) := rfl
  generalize ((l, σ, σf, xo (ocI r)) : Xt) = X at hX1 hX2 ⊢
  unfold fX11_takeAll at hf
  refine g_aload_n (j := 0) dX11_takeAll_0 rfl rfl ?_
  refine g_iload_n (j := 1) dX11_takeAll_1 rfl rfl ?_
  obtain ⟨_, h3, hf⟩ := ob hf
  obtain ⟨σ1, v2, eσ1, hf⟩ := cb_el hf
  refine g_callV_i dX11_takeAll_2 (wX11_isRow _ eσ1) (okX11_isRow _ (by decide) (by decide)) (ckK_el h3) hc15 t_1803 t_1805 s_X11_isRow rfl (Nat.le_trans (cat_le _) (Nat.le_of_ble_eq_true rfl)) rfl ?_
  refine g_if_eq (tgt := 17) dX11_takeAll_5 (by decide) (fun c4 => ?_) (fun c4 => ?_)
  · rw [if_pos c4] at hf
    refine g_sub (L' := []) [] rfl ?_
    exact bX11_takeAll_17 hX1 hX2 hf
  · rw [if_neg c4] at hf
    refine g_iload_n (j := 2) dX11_takeAll_8 rfl rfl ?_
    refine g_if_lt (tgt := 17) dX11_takeAll_9 (by decide) (fun c5 => ?_) (fun c5 => ?_)
    · rw [if_pos c5] at hf
      refine g_sub (L' := []) [] rfl ?_
      exact bX11_takeAll_17 hX1 hX2 hf
    · rw [if_neg c5] at hf
      refine g_iload_n (j := 2) dX11_takeAll_12 rfl rfl ?_
      refine g_iconst (v := 2) dX11_takeAll_13 (by decide) ?_
      refine g_icmp_le (tgt := 25) dX11_takeAll_14 (by decide) (fun c6 => ?_) (fun c6 => ?_)
      · rw [if_pos c6] at hf
        refine g_aload_n (j := 0) dX11_takeAll_25 rfl rfl ?_
        obtain ⟨_, h9, hf⟩ := ob hf
        obtain ⟨σ7, a8, eσ7, hf⟩ := cb_el hf
        refine g_callV_q dX11_takeAll_26 (wX11_present _ eσ7) (okX11_present _ (by decide) (by decide)) (ckK_el h9) hc15 t_959 t_961 s_X11_present rfl (Nat.le_trans (cat_le _) (Nat.le_of_ble_eq_true rfl)) rfl ?_
        obtain ⟨v10, ev10, hf⟩ := ob hf
        refine g_getFN dX11_takeAll_29 ev10 t_369 hin11 hc11 (by decide) rfl ?_
        refine g_iload_n (j := 1) dX11_takeAll_32 rfl rfl ?_
        obtain ⟨v11, ev11, hf⟩ := ob hf
        refine g_aald dX11_takeAll_33 (by decide) rfl ev11 ?_
        obtain ⟨v12, ev12, hf⟩ := ob hf
        refine g_getFN dX11_takeAll_34 ev12 t_362 hin10 hc10 (by decide) rfl ?_
        refine g_astore_n (i := 3) (L' := [(3, rv v12), (0, rv x0), (1, .int x1), (2, .int x2)]) dX11_takeAll_37 rfl (Nat.le_of_ble_eq_true rfl) rfl ?_
        refine g_iload_n (j := 3) dX11_takeAll_38 rfl rfl ?_
        refine g_iconst (v := 2) dX11_takeAll_39 (by decide) ?_
        refine g_icmp_ne (tgt := 56) dX11_takeAll_40 (by decide) (fun c13 => ?_) (fun c13 => ?_)
        · rw [if_neg c13] at hf
          refine g_sub (L' := [(0, rv x0), (2, .int x2), (3, rv v12)]) [1, 3, 0] rfl ?_
          exact bX11_takeAll_56 hX1 hX2 hf
        · rw [if_pos c13] at hf
          refine g_aload_n (j := 0) dX11_takeAll_43 rfl rfl ?_
          obtain ⟨v14, ev14, hf⟩ := ob hf
          refine g_alen dX11_takeAll_44 ev14 ?_
          refine g_if_ne (tgt := 56) dX11_takeAll_45 (by decide) (fun c15 => ?_) (fun c15 => ?_)
          · rw [if_neg c15] at hf
            refine g_sub (L' := [(0, rv x0), (2, .int x2), (3, rv v12)]) [1, 3, 0] rfl ?_
            exact bX11_takeAll_56 hX1 hX2 hf
          · rw [if_pos c15] at hf
            cases hf
            exact g_throw (cls := "java/util/NoSuchElementException") (names := ["java/lang/RuntimeException", "java/lang/Exception"]) dX11_takeAll_48 dX11_takeAll_51 dX11_takeAll_52 dX11_takeAll_55 (by decide +kernel) (by decide +kernel) thw_333 thg_333 (by decide) (by decide) hX2 hX1 rfl
      · rw [if_neg c6] at hf
        refine g_sub (L' := []) [] rfl ?_
        exact bX11_takeAll_17 hX1 hX2 hf

theorem okX11_takeAll (M : Mt) (h1 : 8 + 1 ≤ M.2.2.2.2.1) (h2 : 8 + (5 + 11) + 298 ≤ M.2.2.2.2.2.1) : CallOk M MtX11_takeAll yX11_takeAll 2 := ⟨t_1881, h1, h2, ⟨by decide, by decide⟩, by decide +kernel, t_1⟩
abbrev MtX11_undo : Mt := (cX11_undo, 1, "ExactlySaid", (Option.some Jvm.ClassFile.FieldType.int), 1, 84, false)
set_option maxRecDepth 100000 in
set_option maxHeartbeats 4000000 in
theorem wX11_undo (l : Launch) {σ σf : St} {x0 : Nat} {r : Int32} (hf : fX11_undo σ x0 = some (σf, r)) : Con MtX11_undo yX11_undo l σ [rv x0] σf (some (.int r)) := by
  refine Con.of (by decide +kernel) rfl (fun h => absurd (show false = true from h) (by decide)) (by simp only [sl_n, sl_r, sl_i, sl_l]; exact Nat.le_of_ble_eq_true rfl) ?_
  rw [show lv_args 0 [rv x0] = [(0, rv x0)] by simp only [la_n, la_r, la_i, la_l] <;> rfl]
  have hX1 : ((l, σ, σf, .inl (some (.int r))) : Xt).2.2.1 = σf := rfl
  have hX2 : ((l, σ, σf, .inl (some (.int r))) : Xt).2.2.2 = .inl (some (.int r)) := rfl
  unfold fX11_undo at hf
  refine g_aload_n (j := 0) dX11_undo_0 rfl rfl ?_
  obtain ⟨v1, ev1, hf⟩ := ob hf
  refine g_getI dX11_undo_1 ev1 t_389 hin15 hc15 (by decide) rfl ?_
  refine g_iconst (v := 1) dX11_undo_4 (by decide) ?_
  refine g_icmp_ge (tgt := 10) dX11_undo_5 (by decide) (fun c2 => ?_) (fun c2 => ?_)
  · rw [if_pos c2] at hf
    refine g_aload_n (j := 0) dX11_undo_10 rfl rfl ?_
    refine g_dup dX11_undo_11 (rv_cat _) ?_
    obtain ⟨v3, ev3, hf⟩ := ob hf
    refine g_getI dX11_undo_12 ev3 t_389 hin15 hc15 (by decide) rfl ?_
    refine g_iconst (v := 1) dX11_undo_15 (by decide) ?_
    refine g_isub dX11_undo_16 ?_
    obtain ⟨σ4, eσ4, hf⟩ := ob hf
    refine g_putI dX11_undo_17 eσ4 (Or.inl t_389) hin15 hc15 (by decide) hty15 hnm15 (Or.inl rfl) rfl rfl rfl ?_
    refine g_aload_n (j := 0) dX11_undo_20 rfl rfl ?_
    obtain ⟨v5, ev5, hf⟩ := ob hf
    refine g_getI dX11_undo_21 ev5 t_389 hin15 hc15 (by decide) rfl ?_
    exact g_iret dX11_undo_24 rfl rfl hX2 hX1 hf
  · rw [if_neg c2] at hf
    refine g_iconst (v := (-1)) dX11_undo_8 (by decide) ?_
    exact g_iret dX11_undo_9 rfl rfl hX2 hX1 hf

theorem okX11_undo (M : Mt) (h1 : 1 + 1 ≤ M.2.2.2.2.1) (h2 : 8 + (1 + 11) + 84 ≤ M.2.2.2.2.2.1) : CallOk M MtX11_undo yX11_undo 0 := ⟨t_1081, h1, h2, ⟨by decide, by decide⟩, by decide +kernel, t_1⟩
abbrev MtX11_redo : Mt := (cX11_redo, 1, "ExactlySaid", (Option.some Jvm.ClassFile.FieldType.int), 1, 84, false)
set_option maxRecDepth 100000 in
set_option maxHeartbeats 4000000 in
theorem wX11_redo (l : Launch) {σ σf : St} {x0 : Nat} {r : Int32} (hf : fX11_redo σ x0 = some (σf, r)) : Con MtX11_redo yX11_redo l σ [rv x0] σf (some (.int r)) := by
  refine Con.of (by decide +kernel) rfl (fun h => absurd (show false = true from h) (by decide)) (by simp only [sl_n, sl_r, sl_i, sl_l]; exact Nat.le_of_ble_eq_true rfl) ?_
  rw [show lv_args 0 [rv x0] = [(0, rv x0)] by simp only [la_n, la_r, la_i, la_l] <;> rfl]
  have hX1 : ((l, σ, σf, .inl (some (.int r))) : Xt).2.2.1 = σf := rfl
  have hX2 : ((l, σ, σf, .inl (some (.int r))) : Xt).2.2.2 = .inl (some (.int r)) := rfl
  unfold fX11_redo at hf
  refine g_aload_n (j := 0) dX11_redo_0 rfl rfl ?_
  obtain ⟨v1, ev1, hf⟩ := ob hf
  refine g_getI dX11_redo_1 ev1 t_389 hin15 hc15 (by decide) rfl ?_
  refine g_aload_n (j := 0) dX11_redo_4 rfl rfl ?_
  obtain ⟨v2, ev2, hf⟩ := ob hf
  refine g_getI dX11_redo_5 ev2 t_390 hin15 hc15 (by decide) rfl ?_
  refine g_icmp_lt (tgt := 13) dX11_redo_8 (by decide) (fun c3 => ?_) (fun c3 => ?_)
  · rw [if_pos c3] at hf
    refine g_aload_n (j := 0) dX11_redo_13 rfl rfl ?_
    refine g_dup dX11_redo_14 (rv_cat _) ?_
    obtain ⟨v4, ev4, hf⟩ := ob hf
    refine g_getI dX11_redo_15 ev4 t_389 hin15 hc15 (by decide) rfl ?_
    refine g_iconst (v := 1) dX11_redo_18 (by decide) ?_
    refine g_iadd dX11_redo_19 ?_
    obtain ⟨σ5, eσ5, hf⟩ := ob hf
    refine g_putI dX11_redo_20 eσ5 (Or.inl t_389) hin15 hc15 (by decide) hty15 hnm15 (Or.inl rfl) rfl rfl rfl ?_
    refine g_aload_n (j := 0) dX11_redo_23 rfl rfl ?_
    obtain ⟨v6, ev6, hf⟩ := ob hf
    refine g_getI dX11_redo_24 ev6 t_390 hin15 hc15 (by decide) rfl ?_
    refine g_aload_n (j := 0) dX11_redo_27 rfl rfl ?_
    obtain ⟨v7, ev7, hf⟩ := ob hf
    refine g_getI dX11_redo_28 ev7 t_389 hin15 hc15 (by decide) rfl ?_
    refine g_isub dX11_redo_31 ?_
    exact g_iret dX11_redo_32 rfl rfl hX2 hX1 hf
  · rw [if_neg c3] at hf
    refine g_iconst (v := (-1)) dX11_redo_11 (by decide) ?_
    exact g_iret dX11_redo_12 rfl rfl hX2 hX1 hf

theorem okX11_redo (M : Mt) (h1 : 1 + 1 ≤ M.2.2.2.2.1) (h2 : 8 + (1 + 11) + 84 ≤ M.2.2.2.2.2.1) : CallOk M MtX11_redo yX11_redo 0 := ⟨t_1085, h1, h2, ⟨by decide, by decide⟩, by decide +kernel, t_1⟩
abbrev MtX11_meanDigits : Mt := (cX11_meanDigits, 4, "ExactlySaid", (Option.some Jvm.ClassFile.FieldType.double), 2, 106, false)
set_option maxRecDepth 100000 in
set_option maxHeartbeats 4000000 in
theorem bX11_meanDigits_52 {X : Xt} {σf : St} {r : UInt64} (hX1 : X.2.2.1 = σf) (hX2 : X.2.2.2 = .inl (some (.double r))) {k22 : St → Nat → Int32 → Int32 → Option (St × UInt64)} (hk22 : ∀ (σ : St) (x1 : Nat) (x2 : Int32) (x3 : Int32), k22 σ x1 x2 x3 = some (σf, r) → G MtX11_meanDigits X σ 22 [(1, rv x1), (2, .int x2), (3, .int x3)] []) {σ : St} {x1 : Nat} {x2 : Int32} {x3 : Int32} (hf : fX11_meanDigits_52 k22 σ x1 x2 x3 = some (σf, r)) : G MtX11_meanDigits X σ 52 [(1, rv x1), (2, .int x2), (3, .int x3)] [] := by
  unfold fX11_meanDigits_52 at hf
  obtain ⟨v1, ev1, hf⟩ := nm_el hf
  refine g_iinc (L' := [(3, .int v1), (1, rv x1), (2, .int x2)]) (j := 2) (v := v1) dX11_meanDigits_52 rfl (by rw [ev1]; rfl) (Nat.le_of_ble_eq_true rfl) rfl ?_
  refine g_goto (tgt := 22) dX11_meanDigits_55 (by decide) ?_
  refine g_sub (L' := [(1, rv x1), (2, .int x2), (3, .int v1)]) [1, 2, 0] rfl ?_
  exact hk22 _ _ _ _ hf

set_option maxRecDepth 100000 in
set_option maxHeartbeats 4000000 in
theorem bX11_meanDigits_22 {X : Xt} {σf : St} {r : UInt64} (hX1 : X.2.2.1 = σf) (hX2 : X.2.2.2 = .inl (some (.double r))) : ∀ (n : Nat) (σ : St) (x1 : Nat) (x2 : Int32) (x3 : Int32), fX11_meanDigits_22 n σ x1 x2 x3 = some (σf, r) → G MtX11_meanDigits X σ 22 [(1, rv x1), (2, .int x2), (3, .int x3)] [] := by
  intro n
  induction n with
  | zero => intro σ x1 x2 x3 hf; cases hf
  | succ n ih =>
    intro σ x1 x2 x3 hf
    rw [fX11_meanDigits_22] at hf
    refine g_iload_n (j := 2) dX11_meanDigits_22 rfl rfl ?_
    refine g_aload_n (j := 0) dX11_meanDigits_23 rfl rfl ?_
    obtain ⟨v1, ev1, hf⟩ := ob hf
    refine g_alen dX11_meanDigits_24 ev1 ?_
    refine g_icmp_ge (tgt := 58) dX11_meanDigits_25 (by decide) (fun c2 => ?_) (fun c2 => ?_)
    · rw [if_pos c2] at hf
      refine g_iload_n (j := 1) dX11_meanDigits_58 rfl rfl ?_
      refine g_i2d dX11_meanDigits_59 ?_
      refine g_aload_n (j := 0) dX11_meanDigits_60 rfl rfl ?_
      obtain ⟨v3, ev3, hf⟩ := ob hf
      refine g_alen dX11_meanDigits_61 ev3 ?_
      refine g_i2d dX11_meanDigits_62 ?_
      obtain ⟨_, h4, hf⟩ := ob hf
      refine g_ddiv dX11_meanDigits_63 (ckND_el h4) ?_
      exact g_dret dX11_meanDigits_64 rfl hX2 hX1 hf
    · rw [if_neg c2] at hf
      refine g_aload_n (j := 0) dX11_meanDigits_28 rfl rfl ?_
      refine g_iload_n (j := 2) dX11_meanDigits_29 rfl rfl ?_
      obtain ⟨v5, ev5, hf⟩ := ob hf
      refine g_aald dX11_meanDigits_30 (by decide) rfl ev5 ?_
      obtain ⟨v6, ev6, hf⟩ := ob hf
      refine g_getFN dX11_meanDigits_31 ev6 t_1571 hin14 hc14 (by decide) rfl ?_
      refine g_ifnull (tgt := 52) dX11_meanDigits_34 (by decide) (fun c7 => ?_) (fun c7 => ?_)
      · rw [if_pos c7] at hf
        exact bX11_meanDigits_52 hX1 hX2 (fun σ x1 x2 x3 hf => ih σ x1 x2 x3 hf) hf
      · rw [if_neg c7] at hf
        refine g_iload_n (j := 1) dX11_meanDigits_37 rfl rfl ?_
        refine g_aload_n (j := 0) dX11_meanDigits_38 rfl rfl ?_
        refine g_iload_n (j := 2) dX11_meanDigits_39 rfl rfl ?_
        obtain ⟨v8, ev8, hf⟩ := ob hf
        refine g_aald dX11_meanDigits_40 (by decide) rfl ev8 ?_
        obtain ⟨v9, ev9, hf⟩ := ob hf
        refine g_getFN dX11_meanDigits_41 ev9 t_1571 hin14 hc14 (by decide) rfl ?_
        obtain ⟨v10, ev10, hf⟩ := ob hf
        refine g_getFN dX11_meanDigits_44 ev10 t_85 hin5 hc5 (by decide) rfl ?_
        obtain ⟨_, h13, hf⟩ := ob hf
        obtain ⟨σ11, v12, eσ11, hf⟩ := cb_el hf
        refine g_callVN_i dX11_meanDigits_47 (wX3_digitCount _ eσ11) (okX3_digitCount _ (by decide) (by decide)) (ckK_el h13) hc7 t_461 t_463 s_X3_digitCount rfl (Nat.le_trans (cat_le _) (Nat.le_of_ble_eq_true rfl)) rfl ?_
        refine g_iadd dX11_meanDigits_50 ?_
        obtain ⟨v14, ev14, hf⟩ := nm_el hf
        refine g_topI ev14 ?_
        refine g_istore_n (i := 2) (L' := [(2, .int v14), (1, rv x1), (3, .int x3)]) dX11_meanDigits_51 rfl (Nat.le_of_ble_eq_true rfl) (by simp [rv_cat]) ?_
        refine g_sub (L' := [(1, rv x1), (2, .int v14), (3, .int x3)]) [1, 0, 2] rfl ?_
        exact bX11_meanDigits_52 hX1 hX2 (fun σ x1 x2 x3 hf => ih σ x1 x2 x3 hf) hf

set_option maxRecDepth 100000 in
set_option maxHeartbeats 4000000 in
theorem wX11_meanDigits (l : Launch) {σ σf : St} {x0 : Nat} {r : UInt64} (hf : fX11_meanDigits σ x0 = some (σf, r)) : Con MtX11_meanDigits yX11_meanDigits l σ [rv x0] σf (some (.double r)) := by
  refine Con.of (by decide +kernel) rfl (fun h => absurd (show false = true from h) (by decide)) (by simp only [sl_n, sl_r, sl_i, sl_l]; exact Nat.le_of_ble_eq_true rfl) ?_
  rw [show lv_args 0 [rv x0] = [(0, rv x0)] by simp only [la_n, la_r, la_i, la_l] <;> rfl]
  have hX1 : ((l, σ, σf, .inl (some (.double r))) : Xt).2.2.1 = σf := rfl
  have hX2 : ((l, σ, σf, .inl (some (.double r))) : Xt).2.2.2 = .inl (some (.double r)) := rfl
  unfold fX11_meanDigits at hf
  refine g_aload_n (j := 0) dX11_meanDigits_0 rfl rfl ?_
  obtain ⟨_, h3, hf⟩ := ob hf
  obtain ⟨σ1, a2, eσ1, hf⟩ := cb_el hf
  refine g_callV_q dX11_meanDigits_1 (wX11_present _ eσ1) (okX11_present _ (by decide) (by decide)) (ckK_el h3) hc15 t_959 t_961 s_X11_present rfl (Nat.le_trans (cat_le _) (Nat.le_of_ble_eq_true rfl)) rfl ?_
  obtain ⟨v4, ev4, hf⟩ := ob hf
  refine g_getFN dX11_meanDigits_4 ev4 t_367 hin11 hc11 (by decide) rfl ?_
  obtain ⟨v5, ev5, hf⟩ := ob hf
  refine g_getFN dX11_meanDigits_7 ev5 t_335 hin4 hc4 (by decide) rfl ?_
  refine g_astore_n (i := 1) (L' := [(1, rv v5), (0, rv x0)]) dX11_meanDigits_10 rfl (Nat.le_of_ble_eq_true rfl) (by simp [rv_cat]) ?_
  refine g_aload_n (j := 0) dX11_meanDigits_11 rfl rfl ?_
  obtain ⟨v6, ev6, hf⟩ := ob hf
  refine g_alen dX11_meanDigits_12 ev6 ?_
  refine g_if_ne (tgt := 18) dX11_meanDigits_13 (by decide) (fun c7 => ?_) (fun c7 => ?_)
  · rw [if_neg c7] at hf
    refine g_iconst (v := 0) dX11_meanDigits_18 (by decide) ?_
    refine g_istore_n (i := 2) (L' := [(2, .int 0), (1, rv v5), (0, rv x0)]) dX11_meanDigits_19 rfl (Nat.le_of_ble_eq_true rfl) (by simp [rv_cat]) ?_
    refine g_iconst (v := 0) dX11_meanDigits_20 (by decide) ?_
    refine g_istore_n (i := 3) (L' := [(3, .int 0), (2, .int 0), (1, rv v5), (0, rv x0)]) dX11_meanDigits_21 rfl (Nat.le_of_ble_eq_true rfl) rfl ?_
    refine g_sub (L' := [(1, rv v5), (2, .int 0), (3, .int 0)]) [2, 1, 0] rfl ?_
    exact bX11_meanDigits_22 hX1 hX2 FU _ _ _ _ hf
  · rw [if_pos c7] at hf
    refine g_dconst0 dX11_meanDigits_16 ?_
    exact g_dret dX11_meanDigits_17 rfl hX2 hX1 hf

theorem okX11_meanDigits (M : Mt) (h1 : 2 + 1 ≤ M.2.2.2.2.1) (h2 : 8 + (4 + 11) + 106 ≤ M.2.2.2.2.2.1) : CallOk M MtX11_meanDigits yX11_meanDigits 0 := ⟨t_1089, h1, h2, ⟨by decide, by decide⟩, by decide +kernel, t_1⟩
abbrev MtX11_wholes : Mt := (cX11_wholes, 3, "ExactlySaid", (Option.some Jvm.ClassFile.FieldType.float), 3, 124, false)
set_option maxRecDepth 100000 in
set_option maxHeartbeats 4000000 in
theorem bX11_wholes_28 {X : Xt} {σf : St} {r : UInt32} (hX1 : X.2.2.1 = σf) (hX2 : X.2.2.2 = .inl (some (.float r))) {k4 : St → Nat → Int32 → Int32 → Option (St × UInt32)} (hk4 : ∀ (σ : St) (x0 : Nat) (x1 : Int32) (x2 : Int32), k4 σ x0 x1 x2 = some (σf, r) → G MtX11_wholes X σ 4 [(0, rv x0), (1, .int x1), (2, .int x2)] []) {σ : St} {x0 : Nat} {x1 : Int32} {x2 : Int32} (hf : fX11_wholes_28 k4 σ x0 x1 x2 = some (σf, r)) : G MtX11_wholes X σ 28 [(0, rv x0), (1, .int x1), (2, .int x2)] [] := by
  unfold fX11_wholes_28 at hf
  obtain ⟨v1, ev1, hf⟩ := nm_el hf
  refine g_iinc (L' := [(2, .int v1), (0, rv x0), (1, .int x1)]) (j := 2) (v := v1) dX11_wholes_28 rfl (by rw [ev1]; rfl) (Nat.le_of_ble_eq_true rfl) rfl ?_
  refine g_goto (tgt := 4) dX11_wholes_31 (by decide) ?_
  refine g_sub (L' := [(0, rv x0), (1, .int x1), (2, .int v1)]) [1, 2, 0] rfl ?_
  exact hk4 _ _ _ _ hf

set_option maxRecDepth 100000 in
set_option maxHeartbeats 4000000 in
theorem bX11_wholes_4 {X : Xt} {σf : St} {r : UInt32} (hX1 : X.2.2.1 = σf) (hX2 : X.2.2.2 = .inl (some (.float r))) : ∀ (n : Nat) (σ : St) (x0 : Nat) (x1 : Int32) (x2 : Int32), fX11_wholes_4 n σ x0 x1 x2 = some (σf, r) → G MtX11_wholes X σ 4 [(0, rv x0), (1, .int x1), (2, .int x2)] [] := by
  intro n
  induction n with
  | zero => intro σ x0 x1 x2 hf; cases hf
  | succ n ih =>
    intro σ x0 x1 x2 hf
    rw [fX11_wholes_4] at hf
    refine g_iload_n (j := 2) dX11_wholes_4 rfl rfl ?_
    refine g_aload_n (j := 0) dX11_wholes_5 rfl rfl ?_
    obtain ⟨v1, ev1, hf⟩ := ob hf
    refine g_getF dX11_wholes_6 ev1 t_384 hin15 hc15 (by decide) rfl ?_
    obtain ⟨v2, ev2, hf⟩ := ob hf
    refine g_alen dX11_wholes_9 ev2 ?_
    refine g_icmp_ge (tgt := 34) dX11_wholes_10 (by decide) (fun c3 => ?_) (fun c3 => ?_)
    · rw [if_pos c3] at hf
      refine g_iload_n (j := 1) dX11_wholes_34 rfl rfl ?_
      refine g_i2f dX11_wholes_35 ?_
      refine g_ldcwF (v := 1092616192) dX11_wholes_36 t_1094 ?_
      obtain ⟨_, h4, hf⟩ := ob hf
      refine g_fdiv dX11_wholes_39 (ckNF_el h4) ?_
      exact g_fret dX11_wholes_40 rfl hX2 hX1 hf
    · rw [if_neg c3] at hf
      refine g_aload_n (j := 0) dX11_wholes_13 rfl rfl ?_
      obtain ⟨v5, ev5, hf⟩ := ob hf
      refine g_getF dX11_wholes_14 ev5 t_384 hin15 hc15 (by decide) rfl ?_
      refine g_iload_n (j := 2) dX11_wholes_17 rfl rfl ?_
      obtain ⟨v6, ev6, hf⟩ := ob hf
      refine g_aald dX11_wholes_18 (by decide) rfl ev6 ?_
      obtain ⟨_, h9, hf⟩ := ob hf
      obtain ⟨σ7, v8, eσ7, hf⟩ := cb_el hf
      refine g_callVN_i dX11_wholes_19 (wX1_isWhole _ eσ7) (okX1_isWhole _ (by decide) (by decide)) (ckK_el h9) hc5 t_850 t_852 s_X1_isWhole rfl (Nat.le_trans (cat_le _) (Nat.le_of_ble_eq_true rfl)) rfl ?_
      refine g_if_eq (tgt := 28) dX11_wholes_22 (by decide) (fun c10 => ?_) (fun c10 => ?_)
      · rw [if_pos c10] at hf
        exact bX11_wholes_28 hX1 hX2 (fun σ x0 x1 x2 hf => ih σ x0 x1 x2 hf) hf
      · rw [if_neg c10] at hf
        obtain ⟨v11, ev11, hf⟩ := nm_el hf
        refine g_iinc (L' := [(1, .int v11), (0, rv x0), (2, .int x2)]) (j := 1) (v := v11) dX11_wholes_25 rfl (by rw [ev11]; rfl) (Nat.le_of_ble_eq_true rfl) (by simp [rv_cat]) ?_
        refine g_sub (L' := [(0, rv x0), (1, .int v11), (2, .int x2)]) [1, 0, 2] rfl ?_
        exact bX11_wholes_28 hX1 hX2 (fun σ x0 x1 x2 hf => ih σ x0 x1 x2 hf) hf

set_option maxRecDepth 100000 in
set_option maxHeartbeats 4000000 in
theorem wX11_wholes (l : Launch) {σ σf : St} {x0 : Nat} {r : UInt32} (hf : fX11_wholes σ x0 = some (σf, r)) : Con MtX11_wholes yX11_wholes l σ [rv x0] σf (some (.float r)) := by
  refine Con.of (by decide +kernel) rfl (fun h => absurd (show false = true from h) (by decide)) (by simp only [sl_n, sl_r, sl_i, sl_l]; exact Nat.le_of_ble_eq_true rfl) ?_
  rw [show lv_args 0 [rv x0] = [(0, rv x0)] by simp only [la_n, la_r, la_i, la_l] <;> rfl]
  have hX1 : ((l, σ, σf, .inl (some (.float r))) : Xt).2.2.1 = σf := rfl
  have hX2 : ((l, σ, σf, .inl (some (.float r))) : Xt).2.2.2 = .inl (some (.float r)) := rfl
  unfold fX11_wholes at hf
  refine g_iconst (v := 0) dX11_wholes_0 (by decide) ?_
  refine g_istore_n (i := 1) (L' := [(1, .int 0), (0, rv x0)]) dX11_wholes_1 rfl (Nat.le_of_ble_eq_true rfl) (by simp [rv_cat]) ?_
  refine g_iconst (v := 0) dX11_wholes_2 (by decide) ?_
  refine g_istore_n (i := 2) (L' := [(2, .int 0), (1, .int 0), (0, rv x0)]) dX11_wholes_3 rfl (Nat.le_of_ble_eq_true rfl) rfl ?_
  refine g_sub (L' := [(0, rv x0), (1, .int 0), (2, .int 0)]) [2, 1, 0] rfl ?_
  exact bX11_wholes_4 hX1 hX2 FU _ _ _ _ hf

theorem okX11_wholes (M : Mt) (h1 : 3 + 1 ≤ M.2.2.2.2.1) (h2 : 8 + (3 + 11) + 124 ≤ M.2.2.2.2.2.1) : CallOk M MtX11_wholes yX11_wholes 0 := ⟨t_1093, h1, h2, ⟨by decide, by decide⟩, by decide +kernel, t_1⟩
abbrev MtX11_wrongNames : Mt := (cX11_wrongNames, 5, "ExactlySaid", (Option.some Jvm.ClassFile.FieldType.int), 8, 304, false)
set_option maxRecDepth 100000 in
set_option maxHeartbeats 4000000 in
theorem bX11_wrongNames_79 {X : Xt} {σf : St} {r : Int32} (hX1 : X.2.2.1 = σf) (hX2 : X.2.2.2 = .inl (some (.int r))) {k12 : St → Nat → Nat → Int32 → Int32 → Option (St × Int32)} (hk12 : ∀ (σ : St) (x0 : Nat) (x1 : Nat) (x2 : Int32) (x3 : Int32), k12 σ x0 x1 x2 x3 = some (σf, r) → G MtX11_wrongNames X σ 12 [(0, rv x0), (1, rv x1), (2, .int x2), (3, .int x3)] []) {σ : St} {x0 : Nat} {x1 : Nat} {x2 : Int32} {x3 : Int32} (hf : fX11_wrongNames_79 k12 σ x0 x1 x2 x3 = some (σf, r)) : G MtX11_wrongNames X σ 79 [(0, rv x0), (1, rv x1), (2, .int x2), (3, .int x3)] [] := by
  unfold fX11_wrongNames_79 at hf
  obtain ⟨v1, ev1, hf⟩ := nm_el hf
  refine g_iinc (L' := [(3, .int v1), (0, rv x0), (1, rv x1), (2, .int x2)]) (j := 3) (v := v1) dX11_wrongNames_79 rfl (by rw [ev1]; rfl) (Nat.le_of_ble_eq_true rfl) rfl ?_
  refine g_goto (tgt := 12) dX11_wrongNames_82 (by decide) ?_
  refine g_sub (L' := [(0, rv x0), (1, rv x1), (2, .int x2), (3, .int v1)]) [1, 2, 3, 0] rfl ?_
  exact hk12 _ _ _ _ _ hf

set_option maxRecDepth 100000 in
set_option maxHeartbeats 4000000 in
theorem bX11_wrongNames_76 {X : Xt} {σf : St} {r : Int32} (hX1 : X.2.2.1 = σf) (hX2 : X.2.2.2 = .inl (some (.int r))) {k12 : St → Nat → Nat → Int32 → Int32 → Option (St × Int32)} (hk12 : ∀ (σ : St) (x0 : Nat) (x1 : Nat) (x2 : Int32) (x3 : Int32), k12 σ x0 x1 x2 x3 = some (σf, r) → G MtX11_wrongNames X σ 12 [(0, rv x0), (1, rv x1), (2, .int x2), (3, .int x3)] []) {σ : St} {x0 : Nat} {x1 : Nat} {x2 : Int32} {x3 : Int32} (hf : fX11_wrongNames_76 k12 σ x0 x1 x2 x3 = some (σf, r)) : G MtX11_wrongNames X σ 76 [(0, rv x0), (1, rv x1), (2, .int x2), (3, .int x3)] [] := by
  unfold fX11_wrongNames_76 at hf
  obtain ⟨v1, ev1, hf⟩ := nm_el hf
  refine g_iinc (L' := [(2, .int v1), (0, rv x0), (1, rv x1), (3, .int x3)]) (j := 2) (v := v1) dX11_wrongNames_76 rfl (by rw [ev1]; rfl) (Nat.le_of_ble_eq_true rfl) (by simp [rv_cat]) ?_
  refine g_sub (L' := [(0, rv x0), (1, rv x1), (2, .int v1), (3, .int x3)]) [1, 2, 0, 3] rfl ?_
  exact bX11_wrongNames_79 hX1 hX2 hk12 hf

set_option maxRecDepth 100000 in
set_option maxHeartbeats 4000000 in
theorem bX11_wrongNames_12 {X : Xt} {σf : St} {r : Int32} (hX1 : X.2.2.1 = σf) (hX2 : X.2.2.2 = .inl (some (.int r))) : ∀ (n : Nat) (σ : St) (x0 : Nat) (x1 : Nat) (x2 : Int32) (x3 : Int32), fX11_wrongNames_12 n σ x0 x1 x2 x3 = some (σf, r) → G MtX11_wrongNames X σ 12 [(0, rv x0), (1, rv x1), (2, .int x2), (3, .int x3)] [] := by
  intro n
  induction n with
  | zero => intro σ x0 x1 x2 x3 hf; cases hf
  | succ n ih =>
    intro σ x0 x1 x2 x3 hf
    rw [fX11_wrongNames_12] at hf
    refine g_iload_n (j := 3) dX11_wrongNames_12 rfl rfl ?_
    refine g_aload_n (j := 1) dX11_wrongNames_13 rfl rfl ?_
    obtain ⟨v1, ev1, hf⟩ := ob hf
    refine g_getFN dX11_wrongNames_14 ev1 t_335 hin4 hc4 (by decide) rfl ?_
    obtain ⟨v2, ev2, hf⟩ := ob hf
    refine g_alen dX11_wrongNames_17 ev2 ?_
    refine g_icmp_ge (tgt := 85) dX11_wrongNames_18 (by decide) (fun c3 => ?_) (fun c3 => ?_)
    · rw [if_pos c3] at hf
      refine g_iload_n (j := 2) dX11_wrongNames_85 rfl rfl ?_
      exact g_iret dX11_wrongNames_86 rfl rfl hX2 hX1 hf
    · rw [if_neg c3] at hf
      refine g_aload_n (j := 1) dX11_wrongNames_21 rfl rfl ?_
      obtain ⟨v4, ev4, hf⟩ := ob hf
      refine g_getFN dX11_wrongNames_22 ev4 t_335 hin4 hc4 (by decide) rfl ?_
      refine g_iload_n (j := 3) dX11_wrongNames_25 rfl rfl ?_
      obtain ⟨v5, ev5, hf⟩ := ob hf
      refine g_aald dX11_wrongNames_26 (by decide) rfl ev5 ?_
      refine g_astore (i := 4) (L' := [(4, rv v5), (0, rv x0), (1, rv x1), (2, .int x2), (3, .int x3)]) dX11_wrongNames_27 (Nat.le_of_ble_eq_true rfl) rfl ?_
      refine g_aload_n (j := 1) dX11_wrongNames_29 rfl rfl ?_
      obtain ⟨v6, ev6, hf⟩ := ob hf
      refine g_getF dX11_wrongNames_30 ev6 t_393 hin15 hc15 (by decide) rfl ?_
      refine g_aload (j := 0) dX11_wrongNames_33 rfl ?_
      obtain ⟨v7, ev7, hf⟩ := ob hf
      refine g_getFN dX11_wrongNames_35 ev7 t_1568 hin14 hc14 (by decide) rfl ?_
      refine g_aload_n (j := 2) dX11_wrongNames_38 rfl rfl ?_
      refine g_null dX11_wrongNames_39 ?_
      refine g_aload_n (j := 1) dX11_wrongNames_40 rfl rfl ?_
      obtain ⟨v8, ev8, hf⟩ := ob hf
      refine g_getF dX11_wrongNames_41 ev8 t_391 hin15 hc15 (by decide) rfl ?_
      obtain ⟨_, h11, hf⟩ := ob hf
      obtain ⟨σ9, v10, eσ9, hf⟩ := cb_el hf
      refine g_callVN_i dX11_wrongNames_44 (wX2_work _ eσ9) (okX2_work _ (by decide) (by decide)) (ckK_el h11) hc6 t_1103 t_1105 s_X2_work rfl (Nat.le_trans (cat_le _) (Nat.le_of_ble_eq_true rfl)) rfl ?_
      refine g_if_ne (tgt := 76) dX11_wrongNames_47 (by decide) (fun c12 => ?_) (fun c12 => ?_)
      · rw [if_neg c12] at hf
        refine g_sub (L' := [(0, rv x0), (1, rv x1), (2, .int x2), (3, .int x3)]) [1, 2, 3, 4] rfl ?_
        exact bX11_wrongNames_76 hX1 hX2 (fun σ x0 x1 x2 x3 hf => ih σ x0 x1 x2 x3 hf) hf
      · rw [if_pos c12] at hf
        refine g_aload (j := 0) dX11_wrongNames_50 rfl ?_
        obtain ⟨v13, ev13, hf⟩ := ob hf
        refine g_getFN dX11_wrongNames_52 ev13 t_1571 hin14 hc14 (by decide) rfl ?_
        refine g_ifnull (tgt := 76) dX11_wrongNames_55 (by decide) (fun c14 => ?_) (fun c14 => ?_)
        · rw [if_pos c14] at hf
          refine g_sub (L' := [(0, rv x0), (1, rv x1), (2, .int x2), (3, .int x3)]) [1, 2, 3, 4] rfl ?_
          exact bX11_wrongNames_76 hX1 hX2 (fun σ x0 x1 x2 x3 hf => ih σ x0 x1 x2 x3 hf) hf
        · rw [if_neg c14] at hf
          refine g_aload_n (j := 1) dX11_wrongNames_58 rfl rfl ?_
          obtain ⟨v15, ev15, hf⟩ := ob hf
          refine g_getF dX11_wrongNames_59 ev15 t_393 hin15 hc15 (by decide) rfl ?_
          obtain ⟨v16, ev16, hf⟩ := ob hf
          refine g_getFN dX11_wrongNames_62 ev16 t_301 hin6 hc6 (by decide) rfl ?_
          refine g_aload (j := 0) dX11_wrongNames_65 rfl ?_
          obtain ⟨v17, ev17, hf⟩ := ob hf
          refine g_getFN dX11_wrongNames_67 ev17 t_1571 hin14 hc14 (by decide) rfl ?_
          obtain ⟨_, h20, hf⟩ := ob hf
          obtain ⟨σ18, v19, eσ18, hf⟩ := cb_el hf
          refine g_callVN_i dX11_wrongNames_70 (wX1_isSame _ eσ18) (okX1_isSame _ (by decide) (by decide)) (ckK_el h20) hc5 t_1215 t_1217 s_X1_isSame rfl (Nat.le_trans (cat_le _) (Nat.le_of_ble_eq_true rfl)) rfl ?_
          refine g_if_ne (tgt := 79) dX11_wrongNames_73 (by decide) (fun c21 => ?_) (fun c21 => ?_)
          · rw [if_neg c21] at hf
            refine g_sub (L' := [(0, rv x0), (1, rv x1), (2, .int x2), (3, .int x3)]) [1, 2, 3, 4] rfl ?_
            exact bX11_wrongNames_79 hX1 hX2 (fun σ x0 x1 x2 x3 hf => ih σ x0 x1 x2 x3 hf) hf
          · rw [if_pos c21] at hf
            refine g_sub (L' := [(0, rv x0), (1, rv x1), (2, .int x2), (3, .int x3)]) [1, 2, 3, 4] rfl ?_
            exact bX11_wrongNames_76 hX1 hX2 (fun σ x0 x1 x2 x3 hf => ih σ x0 x1 x2 x3 hf) hf

set_option maxRecDepth 100000 in
set_option maxHeartbeats 4000000 in
theorem wX11_wrongNames (l : Launch) {σ σf : St} {x0 : Nat} {r : Int32} (hf : fX11_wrongNames σ x0 = some (σf, r)) : Con MtX11_wrongNames yX11_wrongNames l σ [rv x0] σf (some (.int r)) := by
  refine Con.of (by decide +kernel) rfl (fun h => absurd (show false = true from h) (by decide)) (by simp only [sl_n, sl_r, sl_i, sl_l]; exact Nat.le_of_ble_eq_true rfl) ?_
  rw [show lv_args 0 [rv x0] = [(0, rv x0)] by simp only [la_n, la_r, la_i, la_l] <;> rfl]
  have hX1 : ((l, σ, σf, .inl (some (.int r))) : Xt).2.2.1 = σf := rfl
  have hX2 : ((l, σ, σf, .inl (some (.int r))) : Xt).2.2.2 = .inl (some (.int r)) := rfl
  unfold fX11_wrongNames at hf
  refine g_aload_n (j := 0) dX11_wrongNames_0 rfl rfl ?_
  obtain ⟨_, h3, hf⟩ := ob hf
  obtain ⟨σ1, a2, eσ1, hf⟩ := cb_el hf
  refine g_callV_q dX11_wrongNames_1 (wX11_present _ eσ1) (okX11_present _ (by decide) (by decide)) (ckK_el h3) hc15 t_959 t_961 s_X11_present rfl (Nat.le_trans (cat_le _) (Nat.le_of_ble_eq_true rfl)) rfl ?_
  obtain ⟨v4, ev4, hf⟩ := ob hf
  refine g_getFN dX11_wrongNames_4 ev4 t_367 hin11 hc11 (by decide) rfl ?_
  refine g_astore_n (i := 1) (L' := [(1, rv v4), (0, rv x0)]) dX11_wrongNames_7 rfl (Nat.le_of_ble_eq_true rfl) (by simp [rv_cat]) ?_
  refine g_iconst (v := 0) dX11_wrongNames_8 (by decide) ?_
  refine g_istore_n (i := 2) (L' := [(2, .int 0), (1, rv v4), (0, rv x0)]) dX11_wrongNames_9 rfl (Nat.le_of_ble_eq_true rfl) (by simp [rv_cat]) ?_
  refine g_iconst (v := 0) dX11_wrongNames_10 (by decide) ?_
  refine g_istore_n (i := 3) (L' := [(3, .int 0), (2, .int 0), (1, rv v4), (0, rv x0)]) dX11_wrongNames_11 rfl (Nat.le_of_ble_eq_true rfl) rfl ?_
  refine g_sub (L' := [(0, rv x0), (1, rv v4), (2, .int 0), (3, .int 0)]) [3, 2, 1, 0] rfl ?_
  exact bX11_wrongNames_12 hX1 hX2 FU _ _ _ _ _ hf

theorem okX11_wrongNames (M : Mt) (h1 : 8 + 1 ≤ M.2.2.2.2.1) (h2 : 8 + (5 + 11) + 304 ≤ M.2.2.2.2.2.1) : CallOk M MtX11_wrongNames yX11_wrongNames 0 := ⟨t_1102, h1, h2, ⟨by decide, by decide⟩, by decide +kernel, t_1⟩
abbrev MtX5_isLawful : Mt := (cX5_isLawful, 3, "ExactlySaid$Reckoner", (Option.some Jvm.ClassFile.FieldType.boolean), 6, 251, false)
set_option maxRecDepth 100000 in
set_option maxHeartbeats 4000000 in
theorem wX5_isLawful (l : Launch) {σ σf : St} {x0 : Nat} {x1 : Nat} {x2 : Nat} {r : Int32} (hf : fX5_isLawful σ x0 x1 x2 = some (σf, r)) : Con MtX5_isLawful yX5_isLawful l σ [rv x0, rv x1, rv x2] σf (some (.int r)) := by
  refine Con.of (by decide +kernel) rfl (fun h => absurd (show false = true from h) (by decide)) (by simp only [sl_n, sl_r, sl_i, sl_l]; exact Nat.le_of_ble_eq_true rfl) ?_
  rw [show lv_args 0 [rv x0, rv x1, rv x2] = [(0, rv x0), (1, rv x1), (2, rv x2)] by simp only [la_n, la_r, la_i, la_l] <;> rfl]
  have hX1 : ((l, σ, σf, .inl (some (.int r))) : Xt).2.2.1 = σf := rfl
  have hX2 : ((l, σ, σf, .inl (some (.int r))) : Xt).2.2.2 = .inl (some (.int r)) := rfl
  unfold fX5_isLawful at hf
  refine g_aload_n (j := 0) dX5_isLawful_0 rfl rfl ?_
  refine g_aload_n (j := 1) dX5_isLawful_1 rfl rfl ?_
  refine g_aload_n (j := 2) dX5_isLawful_2 rfl rfl ?_
  refine g_iconst (v := 0) dX5_isLawful_3 (by decide) ?_
  refine g_aload_n (j := 0) dX5_isLawful_4 rfl rfl ?_
  obtain ⟨v1, ev1, hf⟩ := ob hf
  refine g_getF dX5_isLawful_5 ev1 t_173 hin9 hc9 (by decide) rfl ?_
  obtain ⟨_, h4, hf⟩ := ob hf
  obtain ⟨σ2, v3, eσ2, hf⟩ := cb_el hf
  refine g_callV_v dX5_isLawful_8 (wX5_add _ eσ2) (okX5_add _ (by decide) (by decide)) (ckK_el h4) hc9 t_1049 t_1051 s_X5_add rfl (Nat.le_trans (cat_le _) (Nat.le_of_ble_eq_true rfl)) rfl ?_
  refine g_aload_n (j := 0) dX5_isLawful_11 rfl rfl ?_
  refine g_aload_n (j := 0) dX5_isLawful_12 rfl rfl ?_
  obtain ⟨v5, ev5, hf⟩ := ob hf
  refine g_getF dX5_isLawful_13 ev5 t_173 hin9 hc9 (by decide) rfl ?_
  refine g_aload_n (j := 2) dX5_isLawful_16 rfl rfl ?_
  refine g_iconst (v := 1) dX5_isLawful_17 (by decide) ?_
  refine g_aload_n (j := 0) dX5_isLawful_18 rfl rfl ?_
  obtain ⟨v6, ev6, hf⟩ := ob hf
  refine g_getF dX5_isLawful_19 ev6 t_174 hin9 hc9 (by decide) rfl ?_
  obtain ⟨_, h9, hf⟩ := ob hf
  obtain ⟨σ7, v8, eσ7, hf⟩ := cb_el hf
  refine g_callV_v dX5_isLawful_22 (wX5_add _ eσ7) (okX5_add _ (by decide) (by decide)) (ckK_el h9) hc9 t_1049 t_1051 s_X5_add rfl (Nat.le_trans (cat_le _) (Nat.le_of_ble_eq_true rfl)) rfl ?_
  refine g_aload_n (j := 0) dX5_isLawful_25 rfl rfl ?_
  obtain ⟨v10, ev10, hf⟩ := ob hf
  refine g_getF dX5_isLawful_26 ev10 t_174 hin9 hc9 (by decide) rfl ?_
  refine g_aload_n (j := 1) dX5_isLawful_29 rfl rfl ?_
  obtain ⟨_, h13, hf⟩ := ob hf
  obtain ⟨σ11, v12, eσ11, hf⟩ := cb_el hf
  refine g_callVN_i dX5_isLawful_30 (wX1_isSame _ eσ11) (okX1_isSame _ (by decide) (by decide)) (ckK_el h13) hc5 t_1228 t_1217 s_X1_isSame rfl (Nat.le_trans (cat_le _) (Nat.le_of_ble_eq_true rfl)) rfl ?_
  refine g_if_ne (tgt := 38) dX5_isLawful_33 (by decide) (fun c14 => ?_) (fun c14 => ?_)
  · rw [if_neg c14] at hf
    refine g_aload_n (j := 2) dX5_isLawful_38 rfl rfl ?_
    obtain ⟨v15, ev15, hf⟩ := ob hf
    refine g_getIN dX5_isLawful_39 ev15 t_73 hin5 hc5 (by decide) rfl ?_
    refine g_if_ne (tgt := 47) dX5_isLawful_42 (by decide) (fun c16 => ?_) (fun c16 => ?_)
    · rw [if_neg c16] at hf
      refine g_aload_n (j := 0) dX5_isLawful_47 rfl rfl ?_
      refine g_aload_n (j := 1) dX5_isLawful_48 rfl rfl ?_
      refine g_aload_n (j := 2) dX5_isLawful_49 rfl rfl ?_
      refine g_aload_n (j := 0) dX5_isLawful_50 rfl rfl ?_
      obtain ⟨v17, ev17, hf⟩ := ob hf
      refine g_getF dX5_isLawful_51 ev17 t_173 hin9 hc9 (by decide) rfl ?_
      obtain ⟨_, h20, hf⟩ := ob hf
      obtain ⟨σ18, v19, eσ18, hf⟩ := cb_el hf
      refine g_callV_v dX5_isLawful_54 (wX5_multiply _ eσ18) (okX5_multiply _ (by decide) (by decide)) (ckK_el h20) hc9 t_1229 t_1160 s_X5_multiply rfl (Nat.le_trans (cat_le _) (Nat.le_of_ble_eq_true rfl)) rfl ?_
      refine g_aload_n (j := 0) dX5_isLawful_57 rfl rfl ?_
      refine g_aload_n (j := 0) dX5_isLawful_58 rfl rfl ?_
      obtain ⟨v21, ev21, hf⟩ := ob hf
      refine g_getF dX5_isLawful_59 ev21 t_173 hin9 hc9 (by decide) rfl ?_
      refine g_aload_n (j := 0) dX5_isLawful_62 rfl rfl ?_
      refine g_aload_n (j := 2) dX5_isLawful_63 rfl rfl ?_
      obtain ⟨_, h24, hf⟩ := ob hf
      obtain ⟨σ22, a23, eσ22, hf⟩ := cb_el hf
      refine g_callV_q dX5_isLawful_64 (wX5_inverse _ eσ22) (okX5_inverse _ (by decide) (by decide)) (ckK_el h24) hc9 t_1230 t_1164 s_X5_inverse rfl (Nat.le_trans (cat_le _) (Nat.le_of_ble_eq_true rfl)) rfl ?_
      refine g_aload_n (j := 0) dX5_isLawful_67 rfl rfl ?_
      obtain ⟨v25, ev25, hf⟩ := ob hf
      refine g_getF dX5_isLawful_68 ev25 t_174 hin9 hc9 (by decide) rfl ?_
      obtain ⟨_, h28, hf⟩ := ob hf
      obtain ⟨σ26, v27, eσ26, hf⟩ := cb_el hf
      refine g_callV_v dX5_isLawful_71 (wX5_multiply _ eσ26) (okX5_multiply _ (by decide) (by decide)) (ckK_el h28) hc9 t_1229 t_1160 s_X5_multiply rfl (Nat.le_trans (cat_le _) (Nat.le_of_ble_eq_true rfl)) rfl ?_
      refine g_aload_n (j := 0) dX5_isLawful_74 rfl rfl ?_
      obtain ⟨v29, ev29, hf⟩ := ob hf
      refine g_getF dX5_isLawful_75 ev29 t_174 hin9 hc9 (by decide) rfl ?_
      refine g_aload_n (j := 1) dX5_isLawful_78 rfl rfl ?_
      obtain ⟨_, h32, hf⟩ := ob hf
      obtain ⟨σ30, v31, eσ30, hf⟩ := cb_el hf
      refine g_callVN_i dX5_isLawful_79 (wX1_isSame _ eσ30) (okX1_isSame _ (by decide) (by decide)) (ckK_el h32) hc5 t_1228 t_1217 s_X1_isSame rfl (Nat.le_trans (cat_le _) (Nat.le_of_ble_eq_true rfl)) rfl ?_
      obtain ⟨_, h33, hf⟩ := ob hf
      exact g_iret dX5_isLawful_82 rfl (ckZ_el h33) hX2 hX1 hf
    · rw [if_pos c16] at hf
      refine g_iconst (v := 1) dX5_isLawful_45 (by decide) ?_
      exact g_iret dX5_isLawful_46 rfl (by decide) hX2 hX1 hf
  · rw [if_pos c14] at hf
    refine g_iconst (v := 0) dX5_isLawful_36 (by decide) ?_
    exact g_iret dX5_isLawful_37 rfl (by decide) hX2 hX1 hf

theorem okX5_isLawful (M : Mt) (h1 : 6 + 1 ≤ M.2.2.2.2.1) (h2 : 8 + (3 + 11) + 251 ≤ M.2.2.2.2.2.1) : CallOk M MtX5_isLawful yX5_isLawful 2 := ⟨t_1227, h1, h2, ⟨by decide, by decide⟩, by decide +kernel, t_9⟩
abbrev MtX11_wrongPairs : Mt := (cX11_wrongPairs, 4, "ExactlySaid", (Option.some Jvm.ClassFile.FieldType.int), 7, 273, false)
set_option maxRecDepth 100000 in
set_option maxHeartbeats 4000000 in
theorem bX11_wrongPairs_51 {X : Xt} {σf : St} {r : Int32} (hX1 : X.2.2.1 = σf) (hX2 : X.2.2.2 = .inl (some (.int r))) {k4 : St → Nat → Int32 → Int32 → Option (St × Int32)} {k17 : St → Nat → Int32 → Int32 → Int32 → Option (St × Int32)} (hk4 : ∀ (σ : St) (x0 : Nat) (x1 : Int32) (x2 : Int32), k4 σ x0 x1 x2 = some (σf, r) → G MtX11_wrongPairs X σ 4 [(0, rv x0), (1, .int x1), (2, .int x2)] []) (hk17 : ∀ (σ : St) (x0 : Nat) (x1 : Int32) (x2 : Int32) (x3 : Int32), k17 σ x0 x1 x2 x3 = some (σf, r) → G MtX11_wrongPairs X σ 17 [(0, rv x0), (1, .int x1), (2, .int x2), (3, .int x3)] []) {σ : St} {x0 : Nat} {x1 : Int32} {x2 : Int32} {x3 : Int32} (hf : fX11_wrongPairs_51 k4 k17 σ x0 x1 x2 x3 = some (σf, r)) : G MtX11_wrongPairs X σ 51 [(0, rv x0), (1, .int x1), (2, .int x2), (3, .int x3)] [] := by
  unfold fX11_wrongPairs_51 at hf
  obtain ⟨v1, ev1, hf⟩ := nm_el hf
  refine g_iinc (L' := [(3, .int v1), (0, rv x0), (1, .int x1), (2, .int x2)]) (j := 3) (v := v1) dX11_wrongPairs_51 rfl (by rw [ev1]; rfl) (Nat.le_of_ble_eq_true rfl) rfl ?_
  refine g_goto (tgt := 17) dX11_wrongPairs_54 (by decide) ?_
  refine g_sub (L' := [(0, rv x0), (1, .int x1), (2, .int x2), (3, .int v1)]) [1, 2, 3, 0] rfl ?_
  exact hk17 _ _ _ _ _ hf

set_option maxRecDepth 100000 in
set_option maxHeartbeats 4000000 in
theorem bX11_wrongPairs_17 {X : Xt} {σf : St} {r : Int32} (hX1 : X.2.2.1 = σf) (hX2 : X.2.2.2 = .inl (some (.int r))) {k4 : St → Nat → Int32 → Int32 → Option (St × Int32)} (hk4 : ∀ (σ : St) (x0 : Nat) (x1 : Int32) (x2 : Int32), k4 σ x0 x1 x2 = some (σf, r) → G MtX11_wrongPairs X σ 4 [(0, rv x0), (1, .int x1), (2, .int x2)] []) : ∀ (n : Nat) (σ : St) (x0 : Nat) (x1 : Int32) (x2 : Int32) (x3 : Int32), fX11_wrongPairs_17 k4 n σ x0 x1 x2 x3 = some (σf, r) → G MtX11_wrongPairs X σ 17 [(0, rv x0), (1, .int x1), (2, .int x2), (3, .int x3)] [] := by
  intro n
  induction n with
  | zero => intro σ x0 x1 x2 x3 hf; cases hf
  | succ n ih =>
    intro σ x0 x1 x2 x3 hf
    rw [fX11_wrongPairs_17] at hf
    refine g_iload_n (j := 3) dX11_wrongPairs_17 rfl rfl ?_
    refine g_aload_n (j := 0) dX11_wrongPairs_18 rfl rfl ?_
    obtain ⟨v1, ev1, hf⟩ := ob hf
    refine g_getF dX11_wrongPairs_19 ev1 t_384 hin15 hc15 (by decide) rfl ?_
    obtain ⟨v2, ev2, hf⟩ := ob hf
    refine g_alen dX11_wrongPairs_22 ev2 ?_
    refine g_icmp_ge (tgt := 57) dX11_wrongPairs_23 (by decide) (fun c3 => ?_) (fun c3 => ?_)
    · rw [if_pos c3] at hf
      obtain ⟨v4, ev4, hf⟩ := nm_el hf
      refine g_iinc (L' := [(2, .int v4), (0, rv x0), (1, .int x1), (3, .int x3)]) (j := 2) (v := v4) dX11_wrongPairs_57 rfl (by rw [ev4]; rfl) (Nat.le_of_ble_eq_true rfl) rfl ?_
      refine g_goto (tgt := 4) dX11_wrongPairs_60 (by decide) ?_
      refine g_sub (L' := [(0, rv x0), (1, .int x1), (2, .int v4)]) [1, 2, 0] rfl ?_
      exact hk4 _ _ _ _ hf
    · rw [if_neg c3] at hf
      refine g_aload_n (j := 0) dX11_wrongPairs_26 rfl rfl ?_
      obtain ⟨v5, ev5, hf⟩ := ob hf
      refine g_getF dX11_wrongPairs_27 ev5 t_391 hin15 hc15 (by decide) rfl ?_
      refine g_aload_n (j := 0) dX11_wrongPairs_30 rfl rfl ?_
      obtain ⟨v6, ev6, hf⟩ := ob hf
      refine g_getF dX11_wrongPairs_31 ev6 t_384 hin15 hc15 (by decide) rfl ?_
      refine g_iload_n (j := 2) dX11_wrongPairs_34 rfl rfl ?_
      obtain ⟨v7, ev7, hf⟩ := ob hf
      refine g_aald dX11_wrongPairs_35 (by decide) rfl ev7 ?_
      refine g_aload_n (j := 0) dX11_wrongPairs_36 rfl rfl ?_
      obtain ⟨v8, ev8, hf⟩ := ob hf
      refine g_getF dX11_wrongPairs_37 ev8 t_384 hin15 hc15 (by decide) rfl ?_
      refine g_iload_n (j := 3) dX11_wrongPairs_40 rfl rfl ?_
      obtain ⟨v9, ev9, hf⟩ := ob hf
      refine g_aald dX11_wrongPairs_41 (by decide) rfl ev9 ?_
      obtain ⟨_, h12, hf⟩ := ob hf
      obtain ⟨σ10, v11, eσ10, hf⟩ := cb_el hf
      refine g_callVN_i dX11_wrongPairs_42 (wX5_isLawful _ eσ10) (okX5_isLawful _ (by decide) (by decide)) (ckK_el h12) hc9 t_1224 t_1226 s_X5_isLawful rfl (Nat.le_trans (cat_le _) (Nat.le_of_ble_eq_true rfl)) rfl ?_
      refine g_if_ne (tgt := 51) dX11_wrongPairs_45 (by decide) (fun c13 => ?_) (fun c13 => ?_)
      · rw [if_neg c13] at hf
        exact bX11_wrongPairs_51 hX1 hX2 hk4 (fun σ x0 x1 x2 x3 hf => ih σ x0 x1 x2 x3 hf) hf
      · rw [if_pos c13] at hf
        obtain ⟨v14, ev14, hf⟩ := nm_el hf
        refine g_iinc (L' := [(1, .int v14), (0, rv x0), (2, .int x2), (3, .int x3)]) (j := 1) (v := v14) dX11_wrongPairs_48 rfl (by rw [ev14]; rfl) (Nat.le_of_ble_eq_true rfl) (by simp [rv_cat]) ?_
        refine g_sub (L' := [(0, rv x0), (1, .int v14), (2, .int x2), (3, .int x3)]) [1, 0, 2, 3] rfl ?_
        exact bX11_wrongPairs_51 hX1 hX2 hk4 (fun σ x0 x1 x2 x3 hf => ih σ x0 x1 x2 x3 hf) hf

set_option maxRecDepth 100000 in
set_option maxHeartbeats 4000000 in
theorem bX11_wrongPairs_4 {X : Xt} {σf : St} {r : Int32} (hX1 : X.2.2.1 = σf) (hX2 : X.2.2.2 = .inl (some (.int r))) : ∀ (n : Nat) (σ : St) (x0 : Nat) (x1 : Int32) (x2 : Int32), fX11_wrongPairs_4 n σ x0 x1 x2 = some (σf, r) → G MtX11_wrongPairs X σ 4 [(0, rv x0), (1, .int x1), (2, .int x2)] [] := by
  intro n
  induction n with
  | zero => intro σ x0 x1 x2 hf; cases hf
  | succ n ih =>
    intro σ x0 x1 x2 hf
    rw [fX11_wrongPairs_4] at hf
    refine g_iload_n (j := 2) dX11_wrongPairs_4 rfl rfl ?_
    refine g_aload_n (j := 0) dX11_wrongPairs_5 rfl rfl ?_
    obtain ⟨v1, ev1, hf⟩ := ob hf
    refine g_getF dX11_wrongPairs_6 ev1 t_384 hin15 hc15 (by decide) rfl ?_
    obtain ⟨v2, ev2, hf⟩ := ob hf
    refine g_alen dX11_wrongPairs_9 ev2 ?_
    refine g_icmp_ge (tgt := 63) dX11_wrongPairs_10 (by decide) (fun c3 => ?_) (fun c3 => ?_)
    · rw [if_pos c3] at hf
      refine g_iload_n (j := 1) dX11_wrongPairs_63 rfl rfl ?_
      exact g_iret dX11_wrongPairs_64 rfl rfl hX2 hX1 hf
    · rw [if_neg c3] at hf
      refine g_iload_n (j := 2) dX11_wrongPairs_13 rfl rfl ?_
      refine g_iconst (v := 1) dX11_wrongPairs_14 (by decide) ?_
      refine g_iadd dX11_wrongPairs_15 ?_
      obtain ⟨v4, ev4, hf⟩ := nm_el hf
      refine g_topI ev4 ?_
      refine g_istore_n (i := 3) (L' := [(3, .int v4), (0, rv x0), (1, .int x1), (2, .int x2)]) dX11_wrongPairs_16 rfl (Nat.le_of_ble_eq_true rfl) rfl ?_
      refine g_sub (L' := [(0, rv x0), (1, .int x1), (2, .int x2), (3, .int v4)]) [1, 2, 3, 0] rfl ?_
      exact bX11_wrongPairs_17 hX1 hX2 (fun σ x0 x1 x2 hf => ih σ x0 x1 x2 hf) FU _ _ _ _ _ hf

set_option maxRecDepth 100000 in
set_option maxHeartbeats 4000000 in
theorem wX11_wrongPairs (l : Launch) {σ σf : St} {x0 : Nat} {r : Int32} (hf : fX11_wrongPairs σ x0 = some (σf, r)) : Con MtX11_wrongPairs yX11_wrongPairs l σ [rv x0] σf (some (.int r)) := by
  refine Con.of (by decide +kernel) rfl (fun h => absurd (show false = true from h) (by decide)) (by simp only [sl_n, sl_r, sl_i, sl_l]; exact Nat.le_of_ble_eq_true rfl) ?_
  rw [show lv_args 0 [rv x0] = [(0, rv x0)] by simp only [la_n, la_r, la_i, la_l] <;> rfl]
  have hX1 : ((l, σ, σf, .inl (some (.int r))) : Xt).2.2.1 = σf := rfl
  have hX2 : ((l, σ, σf, .inl (some (.int r))) : Xt).2.2.2 = .inl (some (.int r)) := rfl
  unfold fX11_wrongPairs at hf
  refine g_iconst (v := 0) dX11_wrongPairs_0 (by decide) ?_
  refine g_istore_n (i := 1) (L' := [(1, .int 0), (0, rv x0)]) dX11_wrongPairs_1 rfl (Nat.le_of_ble_eq_true rfl) (by simp [rv_cat]) ?_
  refine g_iconst (v := 0) dX11_wrongPairs_2 (by decide) ?_
  refine g_istore_n (i := 2) (L' := [(2, .int 0), (1, .int 0), (0, rv x0)]) dX11_wrongPairs_3 rfl (Nat.le_of_ble_eq_true rfl) rfl ?_
  refine g_sub (L' := [(0, rv x0), (1, .int 0), (2, .int 0)]) [2, 1, 0] rfl ?_
  exact bX11_wrongPairs_4 hX1 hX2 FU _ _ _ _ hf

theorem okX11_wrongPairs (M : Mt) (h1 : 7 + 1 ≤ M.2.2.2.2.1) (h2 : 8 + (4 + 11) + 273 ≤ M.2.2.2.2.2.1) : CallOk M MtX11_wrongPairs yX11_wrongPairs 0 := ⟨t_1223, h1, h2, ⟨by decide, by decide⟩, by decide +kernel, t_1⟩
abbrev MtX11_readFraction : Mt := (cX11_readFraction, 7, "ExactlySaid", none, 6, 248, false)
set_option maxRecDepth 100000 in
set_option maxHeartbeats 4000000 in
theorem bX11_readFraction_119 {X : Xt} {σf : St} {r : Unit} (hX1 : X.2.2.1 = σf) (hX2 : X.2.2.2 = .inl (none)) {k56 : St → Nat → Nat → Nat → Int32 → Int32 → Int32 → Option (St × Unit)} (hk56 : ∀ (σ : St) (x0 : Nat) (x1 : Nat) (x2 : Nat) (x3 : Int32) (x4 : Int32) (x5 : Int32), k56 σ x0 x1 x2 x3 x4 x5 = some (σf, r) → G MtX11_readFraction X σ 56 [(0, rv x0), (1, rv x1), (2, rv x2), (3, .int x3), (4, .int x4), (5, .int x5)] []) {σ : St} {x0 : Nat} {x1 : Nat} {x2 : Nat} {x3 : Int32} {x4 : Int32} {x5 : Int32} (hf : fX11_readFraction_119 k56 σ x0 x1 x2 x3 x4 x5 = some (σf, r)) : G MtX11_readFraction X σ 119 [(0, rv x0), (1, rv x1), (2, rv x2), (3, .int x3), (4, .int x4), (5, .int x5)] [] := by
  unfold fX11_readFraction_119 at hf
  obtain ⟨v1, ev1, hf⟩ := nm_el hf
  refine g_iinc (L' := [(5, .int v1), (0, rv x0), (1, rv x1), (2, rv x2), (3, .int x3), (4, .int x4)]) (j := 5) (v := v1) dX11_readFraction_119 rfl (by rw [ev1]; rfl) (Nat.le_of_ble_eq_true rfl) rfl ?_
  refine g_goto (tgt := 56) dX11_readFraction_122 (by decide) ?_
  refine g_sub (L' := [(0, rv x0), (1, rv x1), (2, rv x2), (3, .int x3), (4, .int x4), (5, .int v1)]) [1, 2, 3, 4, 5, 0] rfl ?_
  exact hk56 _ _ _ _ _ _ _ hf

set_option maxRecDepth 100000 in
set_option maxHeartbeats 4000000 in
theorem bX11_readFraction_101 {X : Xt} {σf : St} {r : Unit} (hX1 : X.2.2.1 = σf) (hX2 : X.2.2.2 = .inl (none)) {k56 : St → Nat → Nat → Nat → Int32 → Int32 → Int32 → Option (St × Unit)} (hk56 : ∀ (σ : St) (x0 : Nat) (x1 : Nat) (x2 : Nat) (x3 : Int32) (x4 : Int32) (x5 : Int32), k56 σ x0 x1 x2 x3 x4 x5 = some (σf, r) → G MtX11_readFraction X σ 56 [(0, rv x0), (1, rv x1), (2, rv x2), (3, .int x3), (4, .int x4), (5, .int x5)] []) {σ : St} {x0 : Nat} {x1 : Nat} {x2 : Nat} {x3 : Int32} {x4 : Int32} {x5 : Int32} {y0 : Nat} (hf : fX11_readFraction_101 k56 σ x0 x1 x2 x3 x4 x5 y0 = some (σf, r)) : G MtX11_readFraction X σ 101 [(0, rv x0), (1, rv x1), (2, rv x2), (3, .int x3), (4, .int x4), (5, .int x5)] [rv y0] := by
  unfold fX11_readFraction_101 at hf
  refine g_astore (i := 6) (L' := [(6, rv y0), (0, rv x0), (1, rv x1), (2, rv x2), (3, .int x3), (4, .int x4), (5, .int x5)]) dX11_readFraction_101 (Nat.le_of_ble_eq_true rfl) rfl ?_
  refine g_aload (j := 0) dX11_readFraction_103 rfl ?_
  refine g_bipush (v := 10) dX11_readFraction_105 (by decide) ?_
  refine g_aload_n (j := 2) dX11_readFraction_107 rfl rfl ?_
  refine g_iload (j := 6) dX11_readFraction_108 rfl ?_
  obtain ⟨_, h3, hf⟩ := ob hf
  obtain ⟨σ1, v2, eσ1, hf⟩ := cb_el hf
  refine g_callV_i dX11_readFraction_110 (wJ4_charAt_5068e _ eσ1) (okJ4_charAt_5068e _ (by decide) (by decide)) (ckK_el h3) hc1 t_1239 t_1240 t_1241 rfl (Nat.le_trans (cat_le _) (Nat.le_of_ble_eq_true rfl)) rfl ?_
  refine g_bipush (v := 48) dX11_readFraction_113 (by decide) ?_
  refine g_isub dX11_readFraction_115 ?_
  obtain ⟨_, h6, hf⟩ := ob hf
  obtain ⟨σ4, v5, eσ4, hf⟩ := cb_el hf
  refine g_callVN_v dX11_readFraction_116 (wX3_raise _ eσ4) (okX3_raise _ (by decide) (by decide)) (ckK_el h6) hc7 t_1250 t_898 s_X3_raise rfl (Nat.le_trans (cat_le _) (Nat.le_of_ble_eq_true rfl)) rfl ?_
  refine g_sub (L' := [(0, rv x0), (1, rv x1), (2, rv x2), (3, .int x3), (4, .int x4), (5, .int x5)]) [1, 2, 3, 4, 5, 6] rfl ?_
  exact bX11_readFraction_119 hX1 hX2 hk56 hf

set_option maxRecDepth 100000 in
set_option maxHeartbeats 4000000 in
theorem bX11_readFraction_152 {X : Xt} {σf : St} {r : Unit} (hX1 : X.2.2.1 = σf) (hX2 : X.2.2.2 = .inl (none)) {σ : St} {x0 : Nat} {x2 : Nat} {y0 : Nat} {y1 : Int32} (hf : fX11_readFraction_152 σ x0 x2 y0 y1 = some (σf, r)) : G MtX11_readFraction X σ 152 [(0, rv x0), (2, rv x2)] [.int y1, rv y0] := by
  unfold fX11_readFraction_152 at hf
  obtain ⟨_, h3, hf⟩ := ob hf
  obtain ⟨σ1, v2, eσ1, hf⟩ := cb_el hf
  refine g_callVN_v dX11_readFraction_152 (wX1_setSign _ eσ1) (okX1_setSign _ (by decide) (by decide)) (ckK_el h3) hc5 t_1251 t_1028 s_X1_setSign rfl (Nat.le_trans (cat_le _) (Nat.le_of_ble_eq_true rfl)) rfl ?_
  refine g_aload_n (j := 0) dX11_readFraction_155 rfl rfl ?_
  obtain ⟨v4, ev4, hf⟩ := ob hf
  refine g_getF dX11_readFraction_156 ev4 t_391 hin15 hc15 (by decide) rfl ?_
  refine g_aload_n (j := 1) dX11_readFraction_159 rfl rfl ?_
  obtain ⟨_, h7, hf⟩ := ob hf
  obtain ⟨σ5, v6, eσ5, hf⟩ := cb_el hf
  refine g_callVN_v dX11_readFraction_160 (wX5_reduce _ eσ5) (okX5_reduce _ (by decide) (by decide)) (ckK_el h7) hc9 t_1252 t_1172 s_X5_reduce rfl (Nat.le_trans (cat_le _) (Nat.le_of_ble_eq_true rfl)) rfl ?_
  exact g_vret dX11_readFraction_163 rfl hX2 hX1 hf

set_option maxRecDepth 100000 in
set_option maxHeartbeats 4000000 in
theorem bX11_readFraction_142 {X : Xt} {σf : St} {r : Unit} (hX1 : X.2.2.1 = σf) (hX2 : X.2.2.2 = .inl (none)) {σ : St} {x0 : Nat} {x2 : Nat} {x3 : Int32} (hf : fX11_readFraction_142 σ x0 x2 x3 = some (σf, r)) : G MtX11_readFraction X σ 142 [(0, rv x0), (2, rv x2), (3, .int x3)] [] := by
  unfold fX11_readFraction_142 at hf
  refine g_aload_n (j := 1) dX11_readFraction_142 rfl rfl ?_
  refine g_iload_n (j := 2) dX11_readFraction_143 rfl rfl ?_
  refine g_if_eq (tgt := 151) dX11_readFraction_144 (by decide) (fun c1 => ?_) (fun c1 => ?_)
  · rw [if_pos c1] at hf
    refine g_iconst (v := 1) dX11_readFraction_151 (by decide) ?_
    refine g_sub (L' := [(0, rv x0), (2, rv x2)]) [0, 1] rfl ?_
    exact bX11_readFraction_152 hX1 hX2 hf
  · rw [if_neg c1] at hf
    refine g_iconst (v := (-1)) dX11_readFraction_147 (by decide) ?_
    refine g_goto (tgt := 152) dX11_readFraction_148 (by decide) ?_
    refine g_sub (L' := [(0, rv x0), (2, rv x2)]) [0, 1] rfl ?_
    exact bX11_readFraction_152 hX1 hX2 hf

set_option maxRecDepth 100000 in
set_option maxHeartbeats 4000000 in
theorem bX11_readFraction_56 {X : Xt} {σf : St} {r : Unit} (hX1 : X.2.2.1 = σf) (hX2 : X.2.2.2 = .inl (none)) : ∀ (n : Nat) (σ : St) (x0 : Nat) (x1 : Nat) (x2 : Nat) (x3 : Int32) (x4 : Int32) (x5 : Int32), fX11_readFraction_56 n σ x0 x1 x2 x3 x4 x5 = some (σf, r) → G MtX11_readFraction X σ 56 [(0, rv x0), (1, rv x1), (2, rv x2), (3, .int x3), (4, .int x4), (5, .int x5)] [] := by
  intro n
  induction n with
  | zero => intro σ x0 x1 x2 x3 x4 x5 hf; cases hf
  | succ n ih =>
    intro σ x0 x1 x2 x3 x4 x5 hf
    rw [fX11_readFraction_56] at hf
    refine g_iload (j := 5) dX11_readFraction_56 rfl ?_
    refine g_aload_n (j := 1) dX11_readFraction_58 rfl rfl ?_
    obtain ⟨_, h3, hf⟩ := ob hf
    obtain ⟨σ1, v2, eσ1, hf⟩ := cb_el hf
    refine g_callV_i dX11_readFraction_59 (wJ4_length_8abf5 _ eσ1) (okJ4_length_8abf5 _ (by decide) (by decide)) (ckK_el h3) hc1 t_858 t_649 t_2788 rfl (Nat.le_trans (cat_le _) (Nat.le_of_ble_eq_true rfl)) rfl ?_
    refine g_icmp_ge (tgt := 125) dX11_readFraction_62 (by decide) (fun c4 => ?_) (fun c4 => ?_)
    · rw [if_pos c4] at hf
      refine g_iload (j := 4) dX11_readFraction_125 rfl ?_
      refine g_aload_n (j := 1) dX11_readFraction_127 rfl rfl ?_
      obtain ⟨_, h7, hf⟩ := ob hf
      obtain ⟨σ5, v6, eσ5, hf⟩ := cb_el hf
      refine g_callV_i dX11_readFraction_128 (wJ4_length_8abf5 _ eσ5) (okJ4_length_8abf5 _ (by decide) (by decide)) (ckK_el h7) hc1 t_858 t_649 t_2788 rfl (Nat.le_trans (cat_le _) (Nat.le_of_ble_eq_true rfl)) rfl ?_
      refine g_icmp_ne (tgt := 142) dX11_readFraction_131 (by decide) (fun c8 => ?_) (fun c8 => ?_)
      · rw [if_neg c8] at hf
        refine g_sub (L' := [(0, rv x0), (2, rv x2), (3, .int x3)]) [0, 2, 3] rfl ?_
        exact bX11_readFraction_142 hX1 hX2 hf
      · rw [if_pos c8] at hf
        refine g_aload_n (j := 2) dX11_readFraction_134 rfl rfl ?_
        obtain ⟨v9, ev9, hf⟩ := ob hf
        refine g_getFN dX11_readFraction_135 ev9 t_85 hin5 hc5 (by decide) rfl ?_
        refine g_lconst (v := 1) dX11_readFraction_138 (by decide) ?_
        obtain ⟨_, h12, hf⟩ := ob hf
        obtain ⟨σ10, v11, eσ10, hf⟩ := cb_el hf
        refine g_callVN_v dX11_readFraction_139 (wX3_setSmall _ eσ10) (okX3_setSmall _ (by decide) (by decide)) (ckK_el h12) hc7 t_1249 t_69 s_X3_setSmall rfl (Nat.le_trans (cat_le _) (Nat.le_of_ble_eq_true rfl)) rfl ?_
        refine g_sub (L' := [(0, rv x0), (2, rv x2), (3, .int x3)]) [0, 2, 3] rfl ?_
        exact bX11_readFraction_142 hX1 hX2 hf
    · rw [if_neg c4] at hf
      refine g_aload_n (j := 1) dX11_readFraction_65 rfl rfl ?_
      refine g_iload (j := 5) dX11_readFraction_66 rfl ?_
      obtain ⟨_, h15, hf⟩ := ob hf
      obtain ⟨σ13, v14, eσ13, hf⟩ := cb_el hf
      refine g_callV_i dX11_readFraction_68 (wJ4_charAt_5068e _ eσ13) (okJ4_charAt_5068e _ (by decide) (by decide)) (ckK_el h15) hc1 t_1239 t_1240 t_1241 rfl (Nat.le_trans (cat_le _) (Nat.le_of_ble_eq_true rfl)) rfl ?_
      refine g_bipush (v := 47) dX11_readFraction_71 (by decide) ?_
      refine g_icmp_ne (tgt := 83) dX11_readFraction_73 (by decide) (fun c16 => ?_) (fun c16 => ?_)
      · rw [if_neg c16] at hf
        refine g_iload (j := 5) dX11_readFraction_83 rfl ?_
        refine g_iload (j := 4) dX11_readFraction_85 rfl ?_
        refine g_icmp_ge (tgt := 97) dX11_readFraction_87 (by decide) (fun c17 => ?_) (fun c17 => ?_)
        · rw [if_pos c17] at hf
          refine g_aload_n (j := 2) dX11_readFraction_97 rfl rfl ?_
          obtain ⟨v18, ev18, hf⟩ := ob hf
          refine g_getFN dX11_readFraction_98 ev18 t_85 hin5 hc5 (by decide) rfl ?_
          exact bX11_readFraction_101 hX1 hX2 (fun σ x0 x1 x2 x3 x4 x5 hf => ih σ x0 x1 x2 x3 x4 x5 hf) hf
        · rw [if_neg c17] at hf
          refine g_aload_n (j := 2) dX11_readFraction_90 rfl rfl ?_
          obtain ⟨v19, ev19, hf⟩ := ob hf
          refine g_getFN dX11_readFraction_91 ev19 t_80 hin5 hc5 (by decide) rfl ?_
          refine g_goto (tgt := 101) dX11_readFraction_94 (by decide) ?_
          exact bX11_readFraction_101 hX1 hX2 (fun σ x0 x1 x2 x3 x4 x5 hf => ih σ x0 x1 x2 x3 x4 x5 hf) hf
      · rw [if_pos c16] at hf
        refine g_iload (j := 5) dX11_readFraction_76 rfl ?_
        refine g_istore (i := 4) (L' := [(4, .int x5), (0, rv x0), (1, rv x1), (2, rv x2), (3, .int x3), (5, .int x5)]) dX11_readFraction_78 (Nat.le_of_ble_eq_true rfl) rfl ?_
        refine g_goto (tgt := 119) dX11_readFraction_80 (by decide) ?_
        refine g_sub (L' := [(0, rv x0), (1, rv x1), (2, rv x2), (3, .int x3), (4, .int x5), (5, .int x5)]) [1, 2, 3, 4, 0, 5] rfl ?_
        exact bX11_readFraction_119 hX1 hX2 (fun σ x0 x1 x2 x3 x4 x5 hf => ih σ x0 x1 x2 x3 x4 x5 hf) hf

set_option maxRecDepth 100000 in
set_option maxHeartbeats 4000000 in
theorem bX11_readFraction_54 {X : Xt} {σf : St} {r : Unit} (hX1 : X.2.2.1 = σf) (hX2 : X.2.2.2 = .inl (none)) {σ : St} {x0 : Nat} {x1 : Nat} {x2 : Nat} {x3 : Int32} {x4 : Int32} {y0 : Int32} (hf : fX11_readFraction_54 σ x0 x1 x2 x3 x4 y0 = some (σf, r)) : G MtX11_readFraction X σ 54 [(0, rv x0), (1, rv x1), (2, rv x2), (3, .int x3), (4, .int x4)] [.int y0] := by
  unfold fX11_readFraction_54 at hf
  refine g_istore (i := 5) (L' := [(5, .int y0), (0, rv x0), (1, rv x1), (2, rv x2), (3, .int x3), (4, .int x4)]) dX11_readFraction_54 (Nat.le_of_ble_eq_true rfl) rfl ?_
  refine g_sub (L' := [(0, rv x0), (1, rv x1), (2, rv x2), (3, .int x3), (4, .int x4), (5, .int y0)]) [1, 2, 3, 4, 5, 0] rfl ?_
  exact bX11_readFraction_56 hX1 hX2 FU _ _ _ _ _ _ _ hf

set_option maxRecDepth 100000 in
set_option maxHeartbeats 4000000 in
theorem bX11_readFraction_22 {X : Xt} {σf : St} {r : Unit} (hX1 : X.2.2.1 = σf) (hX2 : X.2.2.2 = .inl (none)) {σ : St} {x0 : Nat} {x1 : Nat} {x2 : Nat} {y0 : Int32} (hf : fX11_readFraction_22 σ x0 x1 x2 y0 = some (σf, r)) : G MtX11_readFraction X σ 22 [(0, rv x0), (1, rv x1), (2, rv x2)] [.int y0] := by
  unfold fX11_readFraction_22 at hf
  refine g_istore_n (i := 3) (L' := [(3, .int y0), (0, rv x0), (1, rv x1), (2, rv x2)]) dX11_readFraction_22 rfl (Nat.le_of_ble_eq_true rfl) (by simp [rv_cat]) ?_
  refine g_aload_n (j := 2) dX11_readFraction_23 rfl rfl ?_
  obtain ⟨_, h3, hf⟩ := ob hf
  obtain ⟨σ1, v2, eσ1, hf⟩ := cb_el hf
  refine g_callV_i dX11_readFraction_24 (wJ4_length_8abf5 _ eσ1) (okJ4_length_8abf5 _ (by decide) (by decide)) (ckK_el h3) hc1 t_858 t_649 t_2788 rfl (Nat.le_trans (cat_le _) (Nat.le_of_ble_eq_true rfl)) rfl ?_
  refine g_istore (i := 4) (L' := [(4, .int v2), (3, .int y0), (0, rv x0), (1, rv x1), (2, rv x2)]) dX11_readFraction_27 (Nat.le_of_ble_eq_true rfl) rfl ?_
  refine g_aload_n (j := 4) dX11_readFraction_29 rfl rfl ?_
  obtain ⟨v4, ev4, hf⟩ := ob hf
  refine g_getFN dX11_readFraction_30 ev4 t_80 hin5 hc5 (by decide) rfl ?_
  refine g_lconst (v := 0) dX11_readFraction_33 (by decide) ?_
  obtain ⟨_, h7, hf⟩ := ob hf
  obtain ⟨σ5, v6, eσ5, hf⟩ := cb_el hf
  refine g_callVN_v dX11_readFraction_34 (wX3_setSmall _ eσ5) (okX3_setSmall _ (by decide) (by decide)) (ckK_el h7) hc7 t_1249 t_69 s_X3_setSmall rfl (Nat.le_trans (cat_le _) (Nat.le_of_ble_eq_true rfl)) rfl ?_
  refine g_aload_n (j := 4) dX11_readFraction_37 rfl rfl ?_
  obtain ⟨v8, ev8, hf⟩ := ob hf
  refine g_getFN dX11_readFraction_38 ev8 t_85 hin5 hc5 (by decide) rfl ?_
  refine g_lconst (v := 0) dX11_readFraction_41 (by decide) ?_
  obtain ⟨_, h11, hf⟩ := ob hf
  obtain ⟨σ9, v10, eσ9, hf⟩ := cb_el hf
  refine g_callVN_v dX11_readFraction_42 (wX3_setSmall _ eσ9) (okX3_setSmall _ (by decide) (by decide)) (ckK_el h11) hc7 t_1249 t_69 s_X3_setSmall rfl (Nat.le_trans (cat_le _) (Nat.le_of_ble_eq_true rfl)) rfl ?_
  refine g_iload_n (j := 1) dX11_readFraction_45 rfl rfl ?_
  refine g_if_eq (tgt := 53) dX11_readFraction_46 (by decide) (fun c12 => ?_) (fun c12 => ?_)
  · rw [if_pos c12] at hf
    refine g_iconst (v := 0) dX11_readFraction_53 (by decide) ?_
    refine g_sub (L' := [(0, rv x0), (1, rv x1), (2, rv x2), (3, .int y0), (4, .int v2)]) [2, 3, 4, 1, 0] rfl ?_
    exact bX11_readFraction_54 hX1 hX2 hf
  · rw [if_neg c12] at hf
    refine g_iconst (v := 1) dX11_readFraction_49 (by decide) ?_
    refine g_goto (tgt := 54) dX11_readFraction_50 (by decide) ?_
    refine g_sub (L' := [(0, rv x0), (1, rv x1), (2, rv x2), (3, .int y0), (4, .int v2)]) [2, 3, 4, 1, 0] rfl ?_
    exact bX11_readFraction_54 hX1 hX2 hf

set_option maxRecDepth 100000 in
set_option maxHeartbeats 4000000 in
theorem bX11_readFraction_21 {X : Xt} {σf : St} {r : Unit} (hX1 : X.2.2.1 = σf) (hX2 : X.2.2.2 = .inl (none)) {σ : St} {x0 : Nat} {x1 : Nat} {x2 : Nat} (hf : fX11_readFraction_21 σ x0 x1 x2 = some (σf, r)) : G MtX11_readFraction X σ 21 [(0, rv x0), (1, rv x1), (2, rv x2)] [] := by
  unfold fX11_readFraction_21 at hf
  refine g_iconst (v := 0) dX11_readFraction_21 (by decide) ?_
  exact bX11_readFraction_22 hX1 hX2 hf

set_option maxRecDepth 100000 in
set_option maxHeartbeats 4000000 in
theorem wX11_readFraction (l : Launch) {σ σf : St} {x0 : Nat} {x1 : Nat} {x2 : Nat} {r : Unit} (hf : fX11_readFraction σ x0 x1 x2 = some (σf, r)) : Con MtX11_readFraction yX11_readFraction l σ [rv x0, rv x1, rv x2] σf (none) := by
  refine Con.of (by decide +kernel) rfl (fun h => absurd (show false = true from h) (by decide)) (by simp only [sl_n, sl_r, sl_i, sl_l]; exact Nat.le_of_ble_eq_true rfl) ?_
  rw [show lv_args 0 [rv x0, rv x1, rv x2] = [(0, rv x0), (1, rv x1), (2, rv x2)] by simp only [la_n, la_r, la_i, la_l] <;> rfl]
  have hX1 : ((l, σ, σf, .inl (none)) : Xt).2.2.1 = σf := rfl
  have hX2 : ((l, σ, σf, .inl (none)) : Xt).2.2.2 = .inl (none) := rfl
  unfold fX11_readFraction at hf
  refine g_aload_n (j := 1) dX11_readFraction_0 rfl rfl ?_
  obtain ⟨_, h3, hf⟩ := ob hf
  obtain ⟨σ1, v2, eσ1, hf⟩ := cb_el hf
  refine g_callV_i dX11_readFraction_1 (wJ4_length_8abf5 _ eσ1) (okJ4_length_8abf5 _ (by decide) (by decide)) (ckK_el h3) hc1 t_858 t_649 t_2788 rfl (Nat.le_trans (cat_le _) (Nat.le_of_ble_eq_true rfl)) rfl ?_
  refine g_if_le (tgt := 21) dX11_readFraction_4 (by decide) (fun c4 => ?_) (fun c4 => ?_)
  · rw [if_pos c4] at hf
    exact bX11_readFraction_21 hX1 hX2 hf
  · rw [if_neg c4] at hf
    refine g_aload_n (j := 1) dX11_readFraction_7 rfl rfl ?_
    refine g_iconst (v := 0) dX11_readFraction_8 (by decide) ?_
    obtain ⟨_, h7, hf⟩ := ob hf
    obtain ⟨σ5, v6, eσ5, hf⟩ := cb_el hf
    refine g_callV_i dX11_readFraction_9 (wJ4_charAt_5068e _ eσ5) (okJ4_charAt_5068e _ (by decide) (by decide)) (ckK_el h7) hc1 t_1239 t_1240 t_1241 rfl (Nat.le_trans (cat_le _) (Nat.le_of_ble_eq_true rfl)) rfl ?_
    refine g_bipush (v := 45) dX11_readFraction_12 (by decide) ?_
    refine g_icmp_ne (tgt := 21) dX11_readFraction_14 (by decide) (fun c8 => ?_) (fun c8 => ?_)
    · rw [if_neg c8] at hf
      exact bX11_readFraction_21 hX1 hX2 hf
    · rw [if_pos c8] at hf
      refine g_iconst (v := 1) dX11_readFraction_17 (by decide) ?_
      refine g_goto (tgt := 22) dX11_readFraction_18 (by decide) ?_
      exact bX11_readFraction_22 hX1 hX2 hf

theorem okX11_readFraction (M : Mt) (h1 : 6 + 1 ≤ M.2.2.2.2.1) (h2 : 8 + (7 + 11) + 248 ≤ M.2.2.2.2.2.1) : CallOk M MtX11_readFraction yX11_readFraction 2 := ⟨t_1238, h1, h2, ⟨by decide, by decide⟩, by decide +kernel, t_1⟩
abbrev MtX11_wrongTexts : Mt := (cX11_wrongTexts, 5, "ExactlySaid", (Option.some Jvm.ClassFile.FieldType.int), 8, 274, false)
set_option maxRecDepth 100000 in
set_option maxHeartbeats 4000000 in
theorem bX11_wrongTexts_70 {X : Xt} {σf : St} {r : Int32} (hX1 : X.2.2.1 = σf) (hX2 : X.2.2.2 = .inl (some (.int r))) {k21 : St → Nat → Nat → Nat → Int32 → Int32 → Option (St × Int32)} (hk21 : ∀ (σ : St) (x0 : Nat) (x1 : Nat) (x2 : Nat) (x3 : Int32) (x4 : Int32), k21 σ x0 x1 x2 x3 x4 = some (σf, r) → G MtX11_wrongTexts X σ 21 [(0, rv x0), (1, rv x1), (2, rv x2), (3, .int x3), (4, .int x4)] []) {σ : St} {x0 : Nat} {x1 : Nat} {x2 : Nat} {x3 : Int32} {x4 : Int32} (hf : fX11_wrongTexts_70 k21 σ x0 x1 x2 x3 x4 = some (σf, r)) : G MtX11_wrongTexts X σ 70 [(0, rv x0), (1, rv x1), (2, rv x2), (3, .int x3), (4, .int x4)] [] := by
  unfold fX11_wrongTexts_70 at hf
  obtain ⟨v1, ev1, hf⟩ := nm_el hf
  refine g_iinc (L' := [(4, .int v1), (0, rv x0), (1, rv x1), (2, rv x2), (3, .int x3)]) (j := 4) (v := v1) dX11_wrongTexts_70 rfl (by rw [ev1]; rfl) (Nat.le_of_ble_eq_true rfl) rfl ?_
  refine g_goto (tgt := 21) dX11_wrongTexts_73 (by decide) ?_
  refine g_sub (L' := [(0, rv x0), (1, rv x1), (2, rv x2), (3, .int x3), (4, .int v1)]) [1, 2, 3, 4, 0] rfl ?_
  exact hk21 _ _ _ _ _ _ hf

set_option maxRecDepth 100000 in
set_option maxHeartbeats 4000000 in
theorem bX11_wrongTexts_21 {X : Xt} {σf : St} {r : Int32} (hX1 : X.2.2.1 = σf) (hX2 : X.2.2.2 = .inl (some (.int r))) : ∀ (n : Nat) (σ : St) (x0 : Nat) (x1 : Nat) (x2 : Nat) (x3 : Int32) (x4 : Int32), fX11_wrongTexts_21 n σ x0 x1 x2 x3 x4 = some (σf, r) → G MtX11_wrongTexts X σ 21 [(0, rv x0), (1, rv x1), (2, rv x2), (3, .int x3), (4, .int x4)] [] := by
  intro n
  induction n with
  | zero => intro σ x0 x1 x2 x3 x4 hf; cases hf
  | succ n ih =>
    intro σ x0 x1 x2 x3 x4 hf
    rw [fX11_wrongTexts_21] at hf
    refine g_iload (j := 4) dX11_wrongTexts_21 rfl ?_
    refine g_aload_n (j := 0) dX11_wrongTexts_23 rfl rfl ?_
    obtain ⟨v1, ev1, hf⟩ := ob hf
    refine g_getF dX11_wrongTexts_24 ev1 t_384 hin15 hc15 (by decide) rfl ?_
    obtain ⟨v2, ev2, hf⟩ := ob hf
    refine g_alen dX11_wrongTexts_27 ev2 ?_
    refine g_icmp_ge (tgt := 76) dX11_wrongTexts_28 (by decide) (fun c3 => ?_) (fun c3 => ?_)
    · rw [if_pos c3] at hf
      refine g_iload_n (j := 3) dX11_wrongTexts_76 rfl rfl ?_
      exact g_iret dX11_wrongTexts_77 rfl rfl hX2 hX1 hf
    · rw [if_neg c3] at hf
      refine g_aload_n (j := 1) dX11_wrongTexts_31 rfl rfl ?_
      refine g_iconst (v := 0) dX11_wrongTexts_32 (by decide) ?_
      obtain ⟨_, h6, hf⟩ := ob hf
      obtain ⟨σ4, v5, eσ4, hf⟩ := cb_el hf
      refine g_callV_v dX11_wrongTexts_33 (wJ4_setLength_d00df _ eσ4) (okJ4_setLength_d00df _ (by decide) (by decide)) (ckK_el h6) hc1 t_469 t_470 t_471 rfl (Nat.le_trans (cat_le _) (Nat.le_of_ble_eq_true rfl)) rfl ?_
      refine g_aload_n (j := 0) dX11_wrongTexts_36 rfl rfl ?_
      obtain ⟨v7, ev7, hf⟩ := ob hf
      refine g_getF dX11_wrongTexts_37 ev7 t_384 hin15 hc15 (by decide) rfl ?_
      refine g_iload (j := 4) dX11_wrongTexts_40 rfl ?_
      obtain ⟨v8, ev8, hf⟩ := ob hf
      refine g_aald dX11_wrongTexts_42 (by decide) rfl ev8 ?_
      refine g_aload_n (j := 1) dX11_wrongTexts_43 rfl rfl ?_
      obtain ⟨σ9, v10, eσ9, hf⟩ := cb_el hf
      refine g_callS_v dX11_wrongTexts_44 (wX11_writeFraction _ eσ9) (okX11_writeFraction _ (by decide) (by decide)) t_813 t_814 rfl (Nat.le_trans (cat_le _) (Nat.le_of_ble_eq_true rfl)) rfl ?_
      refine g_aload_n (j := 0) dX11_wrongTexts_47 rfl rfl ?_
      refine g_aload_n (j := 1) dX11_wrongTexts_48 rfl rfl ?_
      refine g_aload_n (j := 2) dX11_wrongTexts_49 rfl rfl ?_
      obtain ⟨_, h13, hf⟩ := ob hf
      obtain ⟨σ11, v12, eσ11, hf⟩ := cb_el hf
      refine g_callV_v dX11_wrongTexts_50 (wX11_readFraction _ eσ11) (okX11_readFraction _ (by decide) (by decide)) (ckK_el h13) hc15 t_1235 t_1237 s_X11_readFraction rfl (Nat.le_trans (cat_le _) (Nat.le_of_ble_eq_true rfl)) rfl ?_
      refine g_aload_n (j := 2) dX11_wrongTexts_53 rfl rfl ?_
      refine g_aload_n (j := 0) dX11_wrongTexts_54 rfl rfl ?_
      obtain ⟨v14, ev14, hf⟩ := ob hf
      refine g_getF dX11_wrongTexts_55 ev14 t_384 hin15 hc15 (by decide) rfl ?_
      refine g_iload (j := 4) dX11_wrongTexts_58 rfl ?_
      obtain ⟨v15, ev15, hf⟩ := ob hf
      refine g_aald dX11_wrongTexts_60 (by decide) rfl ev15 ?_
      obtain ⟨_, h18, hf⟩ := ob hf
      obtain ⟨σ16, v17, eσ16, hf⟩ := cb_el hf
      refine g_callVN_i dX11_wrongTexts_61 (wX1_isSame _ eσ16) (okX1_isSame _ (by decide) (by decide)) (ckK_el h18) hc5 t_1215 t_1217 s_X1_isSame rfl (Nat.le_trans (cat_le _) (Nat.le_of_ble_eq_true rfl)) rfl ?_
      refine g_if_ne (tgt := 70) dX11_wrongTexts_64 (by decide) (fun c19 => ?_) (fun c19 => ?_)
      · rw [if_neg c19] at hf
        exact bX11_wrongTexts_70 hX1 hX2 (fun σ x0 x1 x2 x3 x4 hf => ih σ x0 x1 x2 x3 x4 hf) hf
      · rw [if_pos c19] at hf
        obtain ⟨v20, ev20, hf⟩ := nm_el hf
        refine g_iinc (L' := [(3, .int v20), (0, rv x0), (1, rv x1), (2, rv x2), (4, .int x4)]) (j := 3) (v := v20) dX11_wrongTexts_67 rfl (by rw [ev20]; rfl) (Nat.le_of_ble_eq_true rfl) (by simp [rv_cat]) ?_
        refine g_sub (L' := [(0, rv x0), (1, rv x1), (2, rv x2), (3, .int v20), (4, .int x4)]) [1, 2, 3, 0, 4] rfl ?_
        exact bX11_wrongTexts_70 hX1 hX2 (fun σ x0 x1 x2 x3 x4 hf => ih σ x0 x1 x2 x3 x4 hf) hf

set_option maxRecDepth 100000 in
set_option maxHeartbeats 4000000 in
theorem wX11_wrongTexts (l : Launch) {σ σf : St} {x0 : Nat} {r : Int32} (hf : fX11_wrongTexts σ x0 = some (σf, r)) : Con MtX11_wrongTexts yX11_wrongTexts l σ [rv x0] σf (some (.int r)) := by
  refine Con.of (by decide +kernel) rfl (fun h => absurd (show false = true from h) (by decide)) (by simp only [sl_n, sl_r, sl_i, sl_l]; exact Nat.le_of_ble_eq_true rfl) ?_
  rw [show lv_args 0 [rv x0] = [(0, rv x0)] by simp only [la_n, la_r, la_i, la_l] <;> rfl]
  have hX1 : ((l, σ, σf, .inl (some (.int r))) : Xt).2.2.1 = σf := rfl
  have hX2 : ((l, σ, σf, .inl (some (.int r))) : Xt).2.2.2 = .inl (some (.int r)) := rfl
  unfold fX11_wrongTexts at hf
  obtain ⟨σ1, eσ1, hf⟩ := nm_el hf
  obtain ⟨a2, ea2, hf⟩ := nm_el hf
  refine g_new9 dX11_wrongTexts_0 hc1 hin1 hty1 hdf1 t_94 t_95 t_5 eσ1 ea2 ?_
  refine g_dup dX11_wrongTexts_3 (rv_cat _) ?_
  obtain ⟨_, h5, hf⟩ := ob hf
  obtain ⟨σ3, v4, eσ3, hf⟩ := cb_el hf
  refine g_callI dX11_wrongTexts_4 (wJ4_init_da8c8 _ eσ3) (okJ4_init_da8c8 _ (by decide) (by decide)) rfl (by rw [ckK_el h5]; decide) rfl t_96 t_97 rfl (Nat.le_trans (cat_le _) (Nat.le_of_ble_eq_true rfl)) rfl ?_
  refine g_astore_n (i := 1) (L' := [(1, rv a2), (0, rv x0)]) dX11_wrongTexts_7 rfl (Nat.le_of_ble_eq_true rfl) (by simp [rv_cat]) ?_
  obtain ⟨σ6, eσ6, hf⟩ := nm_el hf
  obtain ⟨a7, ea7, hf⟩ := nm_el hf
  refine g_new9 dX11_wrongTexts_8 hc5 hin5 hty5 hdf5 t_44 t_45 t_2 eσ6 ea7 ?_
  refine g_dup dX11_wrongTexts_11 (rv_cat _) ?_
  obtain ⟨_, h10, hf⟩ := ob hf
  obtain ⟨σ8, v9, eσ8, hf⟩ := cb_el hf
  refine g_callIN dX11_wrongTexts_12 (wX1_init _ eσ8) (okX1_init _ (by decide) (by decide)) rfl (by rw [ckK_el h10]; decide) rfl t_46 t_47 rfl (Nat.le_trans (cat_le _) (Nat.le_of_ble_eq_true rfl)) rfl ?_
  refine g_astore_n (i := 2) (L' := [(2, rv a7), (1, rv a2), (0, rv x0)]) dX11_wrongTexts_15 rfl (Nat.le_of_ble_eq_true rfl) (by simp [rv_cat]) ?_
  refine g_iconst (v := 0) dX11_wrongTexts_16 (by decide) ?_
  refine g_istore_n (i := 3) (L' := [(3, .int 0), (2, rv a7), (1, rv a2), (0, rv x0)]) dX11_wrongTexts_17 rfl (Nat.le_of_ble_eq_true rfl) (by simp [rv_cat]) ?_
  refine g_iconst (v := 0) dX11_wrongTexts_18 (by decide) ?_
  refine g_istore (i := 4) (L' := [(4, .int 0), (3, .int 0), (2, rv a7), (1, rv a2), (0, rv x0)]) dX11_wrongTexts_19 (Nat.le_of_ble_eq_true rfl) rfl ?_
  refine g_sub (L' := [(0, rv x0), (1, rv a2), (2, rv a7), (3, .int 0), (4, .int 0)]) [4, 3, 2, 1, 0] rfl ?_
  exact bX11_wrongTexts_21 hX1 hX2 FU _ _ _ _ _ _ hf

theorem okX11_wrongTexts (M : Mt) (h1 : 8 + 1 ≤ M.2.2.2.2.1) (h2 : 8 + (5 + 11) + 274 ≤ M.2.2.2.2.2.1) : CallOk M MtX11_wrongTexts yX11_wrongTexts 0 := ⟨t_1234, h1, h2, ⟨by decide, by decide⟩, by decide +kernel, t_1⟩
abbrev MtX11_errors : Mt := (cX11_errors, 1, "ExactlySaid", (Option.some Jvm.ClassFile.FieldType.int), 9, 328, false)
set_option maxRecDepth 100000 in
set_option maxHeartbeats 4000000 in
theorem wX11_errors (l : Launch) {σ σf : St} {x0 : Nat} {r : Int32} (hf : fX11_errors σ x0 = some (σf, r)) : Con MtX11_errors yX11_errors l σ [rv x0] σf (some (.int r)) := by
  refine Con.of (by decide +kernel) rfl (fun h => absurd (show false = true from h) (by decide)) (by simp only [sl_n, sl_r, sl_i, sl_l]; exact Nat.le_of_ble_eq_true rfl) ?_
  rw [show lv_args 0 [rv x0] = [(0, rv x0)] by simp only [la_n, la_r, la_i, la_l] <;> rfl]
  have hX1 : ((l, σ, σf, .inl (some (.int r))) : Xt).2.2.1 = σf := rfl
  have hX2 : ((l, σ, σf, .inl (some (.int r))) : Xt).2.2.2 = .inl (some (.int r)) := rfl
  unfold fX11_errors at hf
  refine g_aload_n (j := 0) dX11_errors_0 rfl rfl ?_
  obtain ⟨_, h3, hf⟩ := ob hf
  obtain ⟨σ1, v2, eσ1, hf⟩ := cb_el hf
  refine g_callV_i dX11_errors_1 (wX11_wrongNames _ eσ1) (okX11_wrongNames _ (by decide) (by decide)) (ckK_el h3) hc15 t_1099 t_1101 s_X11_wrongNames rfl (Nat.le_trans (cat_le _) (Nat.le_of_ble_eq_true rfl)) rfl ?_
  refine g_aload_n (j := 0) dX11_errors_4 rfl rfl ?_
  obtain ⟨_, h6, hf⟩ := ob hf
  obtain ⟨σ4, v5, eσ4, hf⟩ := cb_el hf
  refine g_callV_i dX11_errors_5 (wX11_wrongPairs _ eσ4) (okX11_wrongPairs _ (by decide) (by decide)) (ckK_el h6) hc15 t_1220 t_1222 s_X11_wrongPairs rfl (Nat.le_trans (cat_le _) (Nat.le_of_ble_eq_true rfl)) rfl ?_
  refine g_iadd dX11_errors_8 ?_
  refine g_aload_n (j := 0) dX11_errors_9 rfl rfl ?_
  obtain ⟨_, h9, hf⟩ := ob hf
  obtain ⟨σ7, v8, eσ7, hf⟩ := cb_el hf
  refine g_callV_i dX11_errors_10 (wX11_wrongTexts _ eσ7) (okX11_wrongTexts _ (by decide) (by decide)) (ckK_el h9) hc15 t_1231 t_1233 s_X11_wrongTexts rfl (Nat.le_trans (cat_le _) (Nat.le_of_ble_eq_true rfl)) rfl ?_
  refine g_iadd dX11_errors_13 ?_
  exact g_iret dX11_errors_14 rfl rfl hX2 hX1 hf

theorem okX11_errors (M : Mt) (h1 : 9 + 1 ≤ M.2.2.2.2.1) (h2 : 8 + (1 + 11) + 328 ≤ M.2.2.2.2.2.1) : CallOk M MtX11_errors yX11_errors 0 := ⟨t_1098, h1, h2, ⟨by decide, by decide⟩, by decide +kernel, t_1⟩
