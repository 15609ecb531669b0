abbrev MtX11_present : Mt := (cX11_present, 1, "ExactlySaid", (Option.some (Jvm.ClassFile.FieldType.object "ExactlySaid$State")), 1, 84, false)
set_option maxRecDepth 100000 in
set_option maxHeartbeats 4000000 in
theorem wX11_present (l : Launch) {σ σf : St} {x0 : Nat} {r : Nat} (hf : fX11_present σ x0 = some (σf, r)) : Con MtX11_present yX11_present l σ [rv x0] σf (some (rv r)) := by
  refine Con.of (by decide +kernel) rfl (fun h => absurd (show false = true from h) (by decide)) (by simp only [sl_n, sl_r, sl_i, sl_l]; exact Nat.le_of_ble_eq_true rfl) ?_
  rw [show lv_args 0 [rv x0] = [(0, rv x0)] by simp only [la_n, la_r, la_i, la_l] <;> rfl]
  have hX1 : ((l, σ, σf, .inl (some (rv r))) : Xt).2.2.1 = σf := rfl
  have hX2 : ((l, σ, σf, .inl (some (rv r))) : Xt).2.2.2 = .inl (some (rv r)) := rfl
  unfold fX11_present at hf
  refine g_aload_n (j := 0) dX11_present_0 rfl rfl ?_
  obtain ⟨v1, ev1, hf⟩ := ob hf
  refine g_getF dX11_present_1 ev1 t_388 hin15 hc15 (by decide) rfl ?_
  refine g_aload_n (j := 0) dX11_present_4 rfl rfl ?_
  obtain ⟨v2, ev2, hf⟩ := ob hf
  refine g_getI dX11_present_5 ev2 t_389 hin15 hc15 (by decide) rfl ?_
  obtain ⟨v3, ev3, hf⟩ := ob hf
  refine g_aald dX11_present_8 (by decide) rfl ev3 ?_
  exact g_aret dX11_present_9 rfl rfl hX2 hX1 hf

theorem okX11_present (M : Mt) (h1 : 1 + 1 ≤ M.2.2.2.2.1) (h2 : 8 + (1 + 11) + 84 ≤ M.2.2.2.2.2.1) : CallOk M MtX11_present yX11_present 0 := ⟨t_962, h1, h2, ⟨by decide, by decide⟩, by decide +kernel, t_1⟩
abbrev MtX0_find : Mt := (cX0_find, 5, "ExactlySaid$Book", (Option.some Jvm.ClassFile.FieldType.int), 1, 84, false)
set_option maxRecDepth 100000 in
set_option maxHeartbeats 4000000 in
theorem bX0_find_19 {X : Xt} {σf : St} {r : Int32} (hX1 : X.2.2.1 = σf) (hX2 : X.2.2.2 = .inl (some (.int r))) : ∀ (n : Nat) (σ : St) (x0 : Nat) (x1 : Int32) (x2 : Int32) (x3 : Nat) (x4 : Int32), fX0_find_19 n σ x0 x1 x2 x3 x4 = some (σf, r) → G MtX0_find X σ 19 [(0, rv x0), (1, .int x1), (2, .int x2), (3, rv x3), (4, .int x4)] [] := by
  intro n
  induction n with
  | zero => intro σ x0 x1 x2 x3 x4 hf; cases hf
  | succ n ih =>
    intro σ x0 x1 x2 x3 x4 hf
    rw [fX0_find_19] at hf
    refine g_iload (j := 4) dX0_find_19 rfl ?_
    refine g_aload_n (j := 3) dX0_find_21 rfl rfl ?_
    obtain ⟨v1, ev1, hf⟩ := ob hf
    refine g_alen dX0_find_22 ev1 ?_
    refine g_icmp_ge (tgt := 61) dX0_find_23 (by decide) (fun c2 => ?_) (fun c2 => ?_)
    · rw [if_pos c2] at hf
      refine g_iconst (v := (-1)) dX0_find_61 (by decide) ?_
      exact g_iret dX0_find_62 rfl rfl hX2 hX1 hf
    · rw [if_neg c2] at hf
      refine g_aload_n (j := 3) dX0_find_26 rfl rfl ?_
      refine g_iload (j := 4) dX0_find_27 rfl ?_
      obtain ⟨v3, ev3, hf⟩ := ob hf
      refine g_aald dX0_find_29 (by decide) rfl ev3 ?_
      obtain ⟨v4, ev4, hf⟩ := ob hf
      refine g_getIN dX0_find_30 ev4 t_1559 hin14 hc14 (by decide) rfl ?_
      refine g_iload_n (j := 1) dX0_find_33 rfl rfl ?_
      refine g_icmp_ne (tgt := 55) dX0_find_34 (by decide) (fun c5 => ?_) (fun c5 => ?_)
      · rw [if_neg c5] at hf
        obtain ⟨v6, ev6, hf⟩ := nm_el hf
        refine g_iinc (L' := [(4, .int v6), (0, rv x0), (1, .int x1), (2, .int x2), (3, rv x3)]) (j := 4) (v := v6) dX0_find_55 rfl (by rw [ev6]; rfl) (Nat.le_of_ble_eq_true rfl) (by simp [rv_cat]) ?_
        refine g_goto (tgt := 19) dX0_find_58 (by decide) ?_
        refine g_sub (L' := [(0, rv x0), (1, .int x1), (2, .int x2), (3, rv x3), (4, .int v6)]) [1, 2, 3, 4, 0] rfl ?_
        exact ih _ _ _ _ _ _ hf
      · rw [if_pos c5] at hf
        refine g_iload_n (j := 2) dX0_find_37 rfl rfl ?_
        refine g_if_eq (tgt := 52) dX0_find_38 (by decide) (fun c7 => ?_) (fun c7 => ?_)
        · rw [if_pos c7] at hf
          refine g_iload (j := 4) dX0_find_52 rfl ?_
          exact g_iret dX0_find_54 rfl rfl hX2 hX1 hf
        · rw [if_neg c7] at hf
          refine g_aload_n (j := 0) dX0_find_41 rfl rfl ?_
          obtain ⟨v8, ev8, hf⟩ := ob hf
          refine g_getF dX0_find_42 ev8 t_334 hin4 hc4 (by decide) rfl ?_
          obtain ⟨v9, ev9, hf⟩ := ob hf
          refine g_alen dX0_find_45 ev9 ?_
          refine g_iload (j := 4) dX0_find_46 rfl ?_
          refine g_iadd dX0_find_48 ?_
          refine g_goto (tgt := 54) dX0_find_49 (by decide) ?_
          exact g_iret dX0_find_54 rfl rfl hX2 hX1 hf

set_option maxRecDepth 100000 in
set_option maxHeartbeats 4000000 in
theorem bX0_find_15 {X : Xt} {σf : St} {r : Int32} (hX1 : X.2.2.1 = σf) (hX2 : X.2.2.2 = .inl (some (.int r))) {σ : St} {x0 : Nat} {x1 : Int32} {x2 : Int32} {y0 : Nat} (hf : fX0_find_15 σ x0 x1 x2 y0 = some (σf, r)) : G MtX0_find X σ 15 [(0, rv x0), (1, .int x1), (2, .int x2)] [rv y0] := by
  unfold fX0_find_15 at hf
  refine g_astore_n (i := 3) (L' := [(3, rv y0), (0, rv x0), (1, .int x1), (2, .int x2)]) dX0_find_15 rfl (Nat.le_of_ble_eq_true rfl) rfl ?_
  refine g_iconst (v := 0) dX0_find_16 (by decide) ?_
  refine g_istore (i := 4) (L' := [(4, .int 0), (3, rv y0), (0, rv x0), (1, .int x1), (2, .int x2)]) dX0_find_17 (Nat.le_of_ble_eq_true rfl) (by simp [rv_cat]) ?_
  refine g_sub (L' := [(0, rv x0), (1, .int x1), (2, .int x2), (3, rv y0), (4, .int 0)]) [2, 3, 4, 1, 0] rfl ?_
  exact bX0_find_19 hX1 hX2 FU _ _ _ _ _ _ hf

set_option maxRecDepth 100000 in
set_option maxHeartbeats 4000000 in
theorem wX0_find (l : Launch) {σ σf : St} {x0 : Nat} {x1 : Int32} {x2 : Int32} {r : Int32} (hf : fX0_find σ x0 x1 x2 = some (σf, r)) : Con MtX0_find yX0_find l σ [rv x0, .int x1, .int x2] σf (some (.int r)) := by
  refine Con.of (by decide +kernel) rfl (fun h => absurd (show false = true from h) (by decide)) (by simp only [sl_n, sl_r, sl_i, sl_l]; exact Nat.le_of_ble_eq_true rfl) ?_
  rw [show lv_args 0 [rv x0, .int x1, .int x2] = [(0, rv x0), (1, .int x1), (2, .int x2)] by simp only [la_n, la_r, la_i, la_l] <;> rfl]
  have hX1 : ((l, σ, σf, .inl (some (.int r))) : Xt).2.2.1 = σf := rfl
  have hX2 : ((l, σ, σf, .inl (some (.int r))) : Xt).2.2.2 = .inl (some (.int r)) := rfl
  unfold fX0_find at hf
  refine g_iload_n (j := 2) dX0_find_0 rfl rfl ?_
  refine g_if_eq (tgt := 11) dX0_find_1 (by decide) (fun c1 => ?_) (fun c1 => ?_)
  · rw [if_pos c1] at hf
    refine g_aload_n (j := 0) dX0_find_11 rfl rfl ?_
    obtain ⟨v2, ev2, hf⟩ := ob hf
    refine g_getF dX0_find_12 ev2 t_334 hin4 hc4 (by decide) rfl ?_
    exact bX0_find_15 hX1 hX2 hf
  · rw [if_neg c1] at hf
    refine g_aload_n (j := 0) dX0_find_4 rfl rfl ?_
    obtain ⟨v3, ev3, hf⟩ := ob hf
    refine g_getF dX0_find_5 ev3 t_336 hin4 hc4 (by decide) rfl ?_
    refine g_goto (tgt := 15) dX0_find_8 (by decide) ?_
    exact bX0_find_15 hX1 hX2 hf

theorem okX0_find (M : Mt) (h1 : 1 + 1 ≤ M.2.2.2.2.1) (h2 : 8 + (5 + 11) + 84 ≤ M.2.2.2.2.2.1) : CallOk M MtX0_find yX0_find 2 := ⟨t_974, h1, h2, ⟨by decide, by decide⟩, by decide +kernel, t_13⟩
abbrev MtX0_toldAt : Mt := (cX0_toldAt, 2, "ExactlySaid$Book", (Option.some (Jvm.ClassFile.FieldType.object "ExactlySaid$Told")), 1, 84, false)
set_option maxRecDepth 100000 in
set_option maxHeartbeats 4000000 in
theorem wX0_toldAt (l : Launch) {σ σf : St} {x0 : Nat} {x1 : Int32} {r : Nat} (hf : fX0_toldAt σ x0 x1 = some (σf, r)) : Con MtX0_toldAt yX0_toldAt l σ [rv x0, .int x1] σf (some (rv r)) := by
  refine Con.of (by decide +kernel) rfl (fun h => absurd (show false = true from h) (by decide)) (by simp only [sl_n, sl_r, sl_i, sl_l]; exact Nat.le_of_ble_eq_true rfl) ?_
  rw [show lv_args 0 [rv x0, .int x1] = [(0, rv x0), (1, .int x1)] by simp only [la_n, la_r, la_i, la_l] <;> rfl]
  have hX1 : ((l, σ, σf, .inl (some (rv r))) : Xt).2.2.1 = σf := rfl
  have hX2 : ((l, σ, σf, .inl (some (rv r))) : Xt).2.2.2 = .inl (some (rv r)) := rfl
  unfold fX0_toldAt at hf
  refine g_iload_n (j := 1) dX0_toldAt_0 rfl rfl ?_
  refine g_if_lt (tgt := 19) dX0_toldAt_1 (by decide) (fun c1 => ?_) (fun c1 => ?_)
  · rw [if_pos c1] at hf
    refine g_null dX0_toldAt_19 ?_
    exact g_aret dX0_toldAt_20 rfl rfl hX2 hX1 hf
  · rw [if_neg c1] at hf
    refine g_iload_n (j := 1) dX0_toldAt_4 rfl rfl ?_
    refine g_aload_n (j := 0) dX0_toldAt_5 rfl rfl ?_
    obtain ⟨v2, ev2, hf⟩ := ob hf
    refine g_getF dX0_toldAt_6 ev2 t_334 hin4 hc4 (by decide) rfl ?_
    obtain ⟨v3, ev3, hf⟩ := ob hf
    refine g_alen dX0_toldAt_9 ev3 ?_
    refine g_aload_n (j := 0) dX0_toldAt_10 rfl rfl ?_
    obtain ⟨v4, ev4, hf⟩ := ob hf
    refine g_getF dX0_toldAt_11 ev4 t_336 hin4 hc4 (by decide) rfl ?_
    obtain ⟨v5, ev5, hf⟩ := ob hf
    refine g_alen dX0_toldAt_14 ev5 ?_
    refine g_iadd dX0_toldAt_15 ?_
    refine g_icmp_lt (tgt := 21) dX0_toldAt_16 (by decide) (fun c6 => ?_) (fun c6 => ?_)
    · rw [if_pos c6] at hf
      refine g_iload_n (j := 1) dX0_toldAt_21 rfl rfl ?_
      refine g_aload_n (j := 0) dX0_toldAt_22 rfl rfl ?_
      obtain ⟨v7, ev7, hf⟩ := ob hf
      refine g_getF dX0_toldAt_23 ev7 t_334 hin4 hc4 (by decide) rfl ?_
      obtain ⟨v8, ev8, hf⟩ := ob hf
      refine g_alen dX0_toldAt_26 ev8 ?_
      refine g_icmp_ge (tgt := 39) dX0_toldAt_27 (by decide) (fun c9 => ?_) (fun c9 => ?_)
      · rw [if_pos c9] at hf
        refine g_aload_n (j := 0) dX0_toldAt_39 rfl rfl ?_
        obtain ⟨v10, ev10, hf⟩ := ob hf
        refine g_getF dX0_toldAt_40 ev10 t_336 hin4 hc4 (by decide) rfl ?_
        refine g_iload_n (j := 1) dX0_toldAt_43 rfl rfl ?_
        refine g_aload_n (j := 0) dX0_toldAt_44 rfl rfl ?_
        obtain ⟨v11, ev11, hf⟩ := ob hf
        refine g_getF dX0_toldAt_45 ev11 t_334 hin4 hc4 (by decide) rfl ?_
        obtain ⟨v12, ev12, hf⟩ := ob hf
        refine g_alen dX0_toldAt_48 ev12 ?_
        refine g_isub dX0_toldAt_49 ?_
        obtain ⟨v13, ev13, hf⟩ := ob hf
        refine g_aald dX0_toldAt_50 (by decide) rfl ev13 ?_
        exact g_aret dX0_toldAt_51 rfl rfl hX2 hX1 hf
      · rw [if_neg c9] at hf
        refine g_aload_n (j := 0) dX0_toldAt_30 rfl rfl ?_
        obtain ⟨v14, ev14, hf⟩ := ob hf
        refine g_getF dX0_toldAt_31 ev14 t_334 hin4 hc4 (by decide) rfl ?_
        refine g_iload_n (j := 1) dX0_toldAt_34 rfl rfl ?_
        obtain ⟨v15, ev15, hf⟩ := ob hf
        refine g_aald dX0_toldAt_35 (by decide) rfl ev15 ?_
        refine g_goto (tgt := 51) dX0_toldAt_36 (by decide) ?_
        exact g_aret dX0_toldAt_51 rfl rfl hX2 hX1 hf
    · rw [if_neg c6] at hf
      refine g_null dX0_toldAt_19 ?_
      exact g_aret dX0_toldAt_20 rfl rfl hX2 hX1 hf

theorem okX0_toldAt (M : Mt) (h1 : 1 + 1 ≤ M.2.2.2.2.1) (h2 : 8 + (2 + 11) + 84 ≤ M.2.2.2.2.2.1) : CallOk M MtX0_toldAt yX0_toldAt 1 := ⟨t_1135, h1, h2, ⟨by decide, by decide⟩, by decide +kernel, t_13⟩
abbrev MtX0_parametersOf : Mt := (cX0_parametersOf, 3, "ExactlySaid$Book", (Option.some Jvm.ClassFile.FieldType.int), 2, 105, false)
set_option maxRecDepth 100000 in
set_option maxHeartbeats 4000000 in
theorem wX0_parametersOf (l : Launch) {σ σf : St} {x0 : Nat} {x1 : Int32} {r : Int32} (hf : fX0_parametersOf σ x0 x1 = some (σf, r)) : Con MtX0_parametersOf yX0_parametersOf l σ [rv x0, .int x1] σf (some (.int r)) := by
  refine Con.of (by decide +kernel) rfl (fun h => absurd (show false = true from h) (by decide)) (by simp only [sl_n, sl_r, sl_i, sl_l]; exact Nat.le_of_ble_eq_true rfl) ?_
  rw [show lv_args 0 [rv x0, .int x1] = [(0, rv x0), (1, .int x1)] by simp only [la_n, la_r, la_i, la_l] <;> rfl]
  have hX1 : ((l, σ, σf, .inl (some (.int r))) : Xt).2.2.1 = σf := rfl
  have hX2 : ((l, σ, σf, .inl (some (.int r))) : Xt).2.2.2 = .inl (some (.int r)) := rfl
  unfold fX0_parametersOf at hf
  refine g_aload_n (j := 0) dX0_parametersOf_0 rfl rfl ?_
  refine g_iload_n (j := 1) dX0_parametersOf_1 rfl rfl ?_
  obtain ⟨_, h3, hf⟩ := ob hf
  obtain ⟨σ1, a2, eσ1, hf⟩ := cb_el hf
  refine g_callV_q dX0_parametersOf_2 (wX0_toldAt _ eσ1) (okX0_toldAt _ (by decide) (by decide)) (ckK_el h3) hc4 t_1490 t_1134 s_X0_toldAt rfl (Nat.le_trans (cat_le _) (Nat.le_of_ble_eq_true rfl)) rfl ?_
  refine g_astore_n (i := 2) (L' := [(2, rv a2), (0, rv x0), (1, .int x1)]) dX0_parametersOf_5 rfl (Nat.le_of_ble_eq_true rfl) rfl ?_
  refine g_aload_n (j := 0) dX0_parametersOf_6 rfl rfl ?_
  refine g_ifnonnull (tgt := 14) dX0_parametersOf_7 (by decide) (fun c4 => ?_) (fun c4 => ?_)
  · rw [if_neg c4] at hf
    refine g_aload_n (j := 0) dX0_parametersOf_14 rfl rfl ?_
    obtain ⟨v5, ev5, hf⟩ := ob hf
    refine g_getIN dX0_parametersOf_15 ev5 t_1562 hin14 hc14 (by decide) rfl ?_
    exact g_iret dX0_parametersOf_18 rfl rfl hX2 hX1 hf
  · rw [if_pos c4] at hf
    refine g_iconst (v := 0) dX0_parametersOf_10 (by decide) ?_
    refine g_goto (tgt := 18) dX0_parametersOf_11 (by decide) ?_
    exact g_iret dX0_parametersOf_18 rfl rfl hX2 hX1 hf

theorem okX0_parametersOf (M : Mt) (h1 : 2 + 1 ≤ M.2.2.2.2.1) (h2 : 8 + (3 + 11) + 105 ≤ M.2.2.2.2.2.1) : CallOk M MtX0_parametersOf yX0_parametersOf 1 := ⟨t_1489, h1, h2, ⟨by decide, by decide⟩, by decide +kernel, t_13⟩
abbrev MtX11_valuesOf : Mt := (cX11_valuesOf, 1, "ExactlySaid", (Option.some Jvm.ClassFile.FieldType.int), 1, 84, false)
set_option maxRecDepth 100000 in
set_option maxHeartbeats 4000000 in
theorem wX11_valuesOf (l : Launch) {σ σf : St} {x0 : Int32} {r : Int32} (hf : fX11_valuesOf σ x0 = some (σf, r)) : Con MtX11_valuesOf yX11_valuesOf l σ [.int x0] σf (some (.int r)) := by
  refine Con.of (by decide +kernel) rfl (fun h => absurd (show false = true from h) (by decide)) (by simp only [sl_n, sl_r, sl_i, sl_l]; exact Nat.le_of_ble_eq_true rfl) ?_
  rw [show lv_args 0 [.int x0] = [(0, .int x0)] by simp only [la_n, la_r, la_i, la_l] <;> rfl]
  have hX1 : ((l, σ, σf, .inl (some (.int r))) : Xt).2.2.1 = σf := rfl
  have hX2 : ((l, σ, σf, .inl (some (.int r))) : Xt).2.2.2 = .inl (some (.int r)) := rfl
  unfold fX11_valuesOf at hf
  refine g_iload_n (j := 0) dX11_valuesOf_0 rfl rfl ?_
  by_cases c1 : x0 = 7
  · rw [if_pos c1] at hf
    refine g_tsIn (tgt := 64) dX11_valuesOf_1 c1 (by decide) (by decide) rfl (by decide) ?_
    refine g_iconst (v := 1) dX11_valuesOf_64 (by decide) ?_
    exact g_iret dX11_valuesOf_65 rfl rfl hX2 hX1 hf
  · rw [if_neg c1] at hf
    by_cases c2 : x0 = 8
    · rw [if_pos c2] at hf
      refine g_tsIn (tgt := 64) dX11_valuesOf_1 c2 (by decide) (by decide) rfl (by decide) ?_
      refine g_iconst (v := 1) dX11_valuesOf_64 (by decide) ?_
      exact g_iret dX11_valuesOf_65 rfl rfl hX2 hX1 hf
    · rw [if_neg c2] at hf
      by_cases c3 : x0 = 9
      · rw [if_pos c3] at hf
        refine g_tsIn (tgt := 66) dX11_valuesOf_1 c3 (by decide) (by decide) rfl (by decide) ?_
        refine g_iconst (v := 2) dX11_valuesOf_66 (by decide) ?_
        exact g_iret dX11_valuesOf_67 rfl rfl hX2 hX1 hf
      · rw [if_neg c3] at hf
        by_cases c4 : x0 = 10
        · rw [if_pos c4] at hf
          refine g_tsIn (tgt := 66) dX11_valuesOf_1 c4 (by decide) (by decide) rfl (by decide) ?_
          refine g_iconst (v := 2) dX11_valuesOf_66 (by decide) ?_
          exact g_iret dX11_valuesOf_67 rfl rfl hX2 hX1 hf
        · rw [if_neg c4] at hf
          by_cases c5 : x0 = 11
          · rw [if_pos c5] at hf
            refine g_tsIn (tgt := 66) dX11_valuesOf_1 c5 (by decide) (by decide) rfl (by decide) ?_
            refine g_iconst (v := 2) dX11_valuesOf_66 (by decide) ?_
            exact g_iret dX11_valuesOf_67 rfl rfl hX2 hX1 hf
          · rw [if_neg c5] at hf
            by_cases c6 : x0 = 12
            · rw [if_pos c6] at hf
              refine g_tsIn (tgt := 64) dX11_valuesOf_1 c6 (by decide) (by decide) rfl (by decide) ?_
              refine g_iconst (v := 1) dX11_valuesOf_64 (by decide) ?_
              exact g_iret dX11_valuesOf_65 rfl rfl hX2 hX1 hf
            · rw [if_neg c6] at hf
              by_cases c7 : x0 = 13
              · rw [if_pos c7] at hf
                refine g_tsIn (tgt := 64) dX11_valuesOf_1 c7 (by decide) (by decide) rfl (by decide) ?_
                refine g_iconst (v := 1) dX11_valuesOf_64 (by decide) ?_
                exact g_iret dX11_valuesOf_65 rfl rfl hX2 hX1 hf
              · rw [if_neg c7] at hf
                by_cases c8 : x0 = 14
                · rw [if_pos c8] at hf
                  refine g_tsIn (tgt := 64) dX11_valuesOf_1 c8 (by decide) (by decide) rfl (by decide) ?_
                  refine g_iconst (v := 1) dX11_valuesOf_64 (by decide) ?_
                  exact g_iret dX11_valuesOf_65 rfl rfl hX2 hX1 hf
                · rw [if_neg c8] at hf
                  by_cases c9 : x0 = 15
                  · rw [if_pos c9] at hf
                    refine g_tsIn (tgt := 64) dX11_valuesOf_1 c9 (by decide) (by decide) rfl (by decide) ?_
                    refine g_iconst (v := 1) dX11_valuesOf_64 (by decide) ?_
                    exact g_iret dX11_valuesOf_65 rfl rfl hX2 hX1 hf
                  · rw [if_neg c9] at hf
                    by_cases c10 : x0 = 16
                    · rw [if_pos c10] at hf
                      refine g_tsIn (tgt := 66) dX11_valuesOf_1 c10 (by decide) (by decide) rfl (by decide) ?_
                      refine g_iconst (v := 2) dX11_valuesOf_66 (by decide) ?_
                      exact g_iret dX11_valuesOf_67 rfl rfl hX2 hX1 hf
                    · rw [if_neg c10] at hf
                      by_cases c11 : x0 = 17
                      · rw [if_pos c11] at hf
                        refine g_tsIn (tgt := 64) dX11_valuesOf_1 c11 (by decide) (by decide) rfl (by decide) ?_
                        refine g_iconst (v := 1) dX11_valuesOf_64 (by decide) ?_
                        exact g_iret dX11_valuesOf_65 rfl rfl hX2 hX1 hf
                      · rw [if_neg c11] at hf
                        by_cases c12 : x0 = 18
                        · rw [if_pos c12] at hf
                          refine g_tsIn (tgt := 64) dX11_valuesOf_1 c12 (by decide) (by decide) rfl (by decide) ?_
                          refine g_iconst (v := 1) dX11_valuesOf_64 (by decide) ?_
                          exact g_iret dX11_valuesOf_65 rfl rfl hX2 hX1 hf
                        · rw [if_neg c12] at hf
                          have qc1 := lv_neT c1 (k := 7) (a := 7) rfl
                          have qc2 := lv_neT c2 (k := 8) (a := 8) rfl
                          have qc3 := lv_neT c3 (k := 9) (a := 9) rfl
                          have qc4 := lv_neT c4 (k := 10) (a := 10) rfl
                          have qc5 := lv_neT c5 (k := 11) (a := 11) rfl
                          have qc6 := lv_neT c6 (k := 12) (a := 12) rfl
                          have qc7 := lv_neT c7 (k := 13) (a := 13) rfl
                          have qc8 := lv_neT c8 (k := 14) (a := 14) rfl
                          have qc9 := lv_neT c9 (k := 15) (a := 15) rfl
                          have qc10 := lv_neT c10 (k := 16) (a := 16) rfl
                          have qc11 := lv_neT c11 (k := 17) (a := 17) rfl
                          have qc12 := lv_neT c12 (k := 18) (a := 18) rfl
                          refine g_tsOut (tgt := 66) dX11_valuesOf_1 (by omega) (by decide) ?_
                          refine g_iconst (v := 2) dX11_valuesOf_66 (by decide) ?_
                          exact g_iret dX11_valuesOf_67 rfl rfl hX2 hX1 hf

theorem okX11_valuesOf (M : Mt) (h1 : 1 + 1 ≤ M.2.2.2.2.1) (h2 : 8 + (1 + 11) + 84 ≤ M.2.2.2.2.2.1) : CallOk M MtX11_valuesOf yX11_valuesOf 1 := ⟨t_1150, h1, h2, ⟨by decide, by decide⟩, by decide +kernel, t_1⟩
abbrev MtX0_isKnown : Mt := (cX0_isKnown, 5, "ExactlySaid$Book", (Option.some Jvm.ClassFile.FieldType.boolean), 3, 127, false)
set_option maxRecDepth 100000 in
set_option maxHeartbeats 4000000 in
theorem bX0_isKnown_105 {X : Xt} {σf : St} {r : Int32} (hX1 : X.2.2.1 = σf) (hX2 : X.2.2.2 = .inl (some (.int r))) {σ : St} (hf : fX0_isKnown_105 σ  = some (σf, r)) : G MtX0_isKnown X σ 105 [] [] := by
  unfold fX0_isKnown_105 at hf
  refine g_iconst (v := 1) dX0_isKnown_105 (by decide) ?_
  refine g_goto (tgt := 110) dX0_isKnown_106 (by decide) ?_
  exact g_iret dX0_isKnown_110 rfl (by decide) hX2 hX1 hf

set_option maxRecDepth 100000 in
set_option maxHeartbeats 4000000 in
theorem wX0_isKnown (l : Launch) {σ σf : St} {x0 : Nat} {x1 : Nat} {x2 : Int32} {r : Int32} (hf : fX0_isKnown σ x0 x1 x2 = some (σf, r)) : Con MtX0_isKnown yX0_isKnown l σ [rv x0, rv x1, .int x2] σf (some (.int r)) := by
  refine Con.of (by decide +kernel) rfl (fun h => absurd (show false = true from h) (by decide)) (by simp only [sl_n, sl_r, sl_i, sl_l]; exact Nat.le_of_ble_eq_true rfl) ?_
  rw [show lv_args 0 [rv x0, rv x1, .int x2] = [(0, rv x0), (1, rv x1), (2, .int x2)] by simp only [la_n, la_r, la_i, la_l] <;> rfl]
  have hX1 : ((l, σ, σf, .inl (some (.int r))) : Xt).2.2.1 = σf := rfl
  have hX2 : ((l, σ, σf, .inl (some (.int r))) : Xt).2.2.2 = .inl (some (.int r)) := rfl
  unfold fX0_isKnown at hf
  refine g_aload_n (j := 1) dX0_isKnown_0 rfl rfl ?_
  obtain ⟨v1, ev1, hf⟩ := ob hf
  refine g_getFN dX0_isKnown_1 ev1 t_1446 hin13 hc13 (by decide) rfl ?_
  refine g_iload_n (j := 2) dX0_isKnown_4 rfl rfl ?_
  obtain ⟨v2, ev2, hf⟩ := ob hf
  refine g_iald dX0_isKnown_5 ev2 ?_
  refine g_istore_n (i := 3) (L' := [(3, .int v2), (0, rv x0), (1, rv x1), (2, .int x2)]) dX0_isKnown_6 rfl (Nat.le_of_ble_eq_true rfl) rfl ?_
  refine g_iload_n (j := 0) dX0_isKnown_7 rfl rfl ?_
  refine g_bipush (v := 22) dX0_isKnown_8 (by decide) ?_
  refine g_icmp_ne (tgt := 34) dX0_isKnown_10 (by decide) (fun c3 => ?_) (fun c3 => ?_)
  · rw [if_neg c3] at hf
    refine g_iload_n (j := 0) dX0_isKnown_34 rfl rfl ?_
    refine g_bipush (v := 9) dX0_isKnown_35 (by decide) ?_
    refine g_icmp_ne (tgt := 80) dX0_isKnown_37 (by decide) (fun c4 => ?_) (fun c4 => ?_)
    · rw [if_neg c4] at hf
      refine g_iload_n (j := 0) dX0_isKnown_80 rfl rfl ?_
      refine g_bipush (v := 10) dX0_isKnown_81 (by decide) ?_
      refine g_icmp_lt (tgt := 105) dX0_isKnown_83 (by decide) (fun c5 => ?_) (fun c5 => ?_)
      · rw [if_pos c5] at hf
        refine g_sub (L' := []) [] rfl ?_
        exact bX0_isKnown_105 hX1 hX2 hf
      · rw [if_neg c5] at hf
        refine g_iload_n (j := 0) dX0_isKnown_86 rfl rfl ?_
        refine g_bipush (v := 20) dX0_isKnown_87 (by decide) ?_
        refine g_icmp_gt (tgt := 105) dX0_isKnown_89 (by decide) (fun c6 => ?_) (fun c6 => ?_)
        · rw [if_pos c6] at hf
          refine g_sub (L' := []) [] rfl ?_
          exact bX0_isKnown_105 hX1 hX2 hf
        · rw [if_neg c6] at hf
          refine g_aload_n (j := 2) dX0_isKnown_92 rfl rfl ?_
          obtain ⟨v7, ev7, hf⟩ := ob hf
          refine g_getFN dX0_isKnown_93 ev7 t_1454 hin13 hc13 (by decide) rfl ?_
          refine g_iload_n (j := 3) dX0_isKnown_96 rfl rfl ?_
          obtain ⟨v8, ev8, hf⟩ := ob hf
          refine g_iald dX0_isKnown_97 ev8 ?_
          refine g_iload_n (j := 0) dX0_isKnown_98 rfl rfl ?_
          obtain ⟨σ9, v10, eσ9, hf⟩ := cb_el hf
          refine g_callSN_i dX0_isKnown_99 (wX11_valuesOf _ eσ9) (okX11_valuesOf _ (by decide) (by decide)) t_1491 t_1149 rfl (Nat.le_trans (cat_le _) (Nat.le_of_ble_eq_true rfl)) rfl ?_
          refine g_icmp_ne (tgt := 109) dX0_isKnown_102 (by decide) (fun c11 => ?_) (fun c11 => ?_)
          · rw [if_neg c11] at hf
            refine g_iconst (v := 0) dX0_isKnown_109 (by decide) ?_
            exact g_iret dX0_isKnown_110 rfl (by decide) hX2 hX1 hf
          · rw [if_pos c11] at hf
            refine g_sub (L' := []) [] rfl ?_
            exact bX0_isKnown_105 hX1 hX2 hf
    · rw [if_pos c4] at hf
      refine g_aload_n (j := 1) dX0_isKnown_40 rfl rfl ?_
      refine g_aload_n (j := 2) dX0_isKnown_41 rfl rfl ?_
      obtain ⟨v12, ev12, hf⟩ := ob hf
      refine g_getFN dX0_isKnown_42 ev12 t_1449 hin13 hc13 (by decide) rfl ?_
      refine g_iload_n (j := 3) dX0_isKnown_45 rfl rfl ?_
      obtain ⟨v13, ev13, hf⟩ := ob hf
      refine g_iald dX0_isKnown_46 ev13 ?_
      refine g_iconst (v := 1) dX0_isKnown_47 (by decide) ?_
      obtain ⟨_, h16, hf⟩ := ob hf
      obtain ⟨σ14, v15, eσ14, hf⟩ := cb_el hf
      refine g_callV_i dX0_isKnown_48 (wX0_find _ eσ14) (okX0_find _ (by decide) (by decide)) (ckK_el h16) hc4 t_1485 t_973 s_X0_find rfl (Nat.le_trans (cat_le _) (Nat.le_of_ble_eq_true rfl)) rfl ?_
      refine g_istore (i := 4) (L' := [(4, .int v15), (3, .int v2), (0, rv x0), (1, rv x1), (2, .int x2)]) dX0_isKnown_51 (Nat.le_of_ble_eq_true rfl) rfl ?_
      refine g_iload (j := 0) dX0_isKnown_53 rfl ?_
      refine g_iconst (v := (-1)) dX0_isKnown_55 (by decide) ?_
      refine g_icmp_eq (tgt := 78) dX0_isKnown_56 (by decide) (fun c17 => ?_) (fun c17 => ?_)
      · rw [if_pos c17] at hf
        refine g_iconst (v := 0) dX0_isKnown_78 (by decide) ?_
        exact g_iret dX0_isKnown_79 rfl (by decide) hX2 hX1 hf
      · rw [if_neg c17] at hf
        refine g_aload_n (j := 2) dX0_isKnown_59 rfl rfl ?_
        refine g_iload (j := 0) dX0_isKnown_60 rfl ?_
        obtain ⟨_, h20, hf⟩ := ob hf
        obtain ⟨σ18, v19, eσ18, hf⟩ := cb_el hf
        refine g_callV_i dX0_isKnown_62 (wX0_parametersOf _ eσ18) (okX0_parametersOf _ (by decide) (by decide)) (ckK_el h20) hc4 t_1486 t_1488 s_X0_parametersOf rfl (Nat.le_trans (cat_le _) (Nat.le_of_ble_eq_true rfl)) rfl ?_
        refine g_aload_n (j := 3) dX0_isKnown_65 rfl rfl ?_
        obtain ⟨v21, ev21, hf⟩ := ob hf
        refine g_getFN dX0_isKnown_66 ev21 t_1454 hin13 hc13 (by decide) rfl ?_
        refine g_iload_n (j := 4) dX0_isKnown_69 rfl rfl ?_
        obtain ⟨v22, ev22, hf⟩ := ob hf
        refine g_iald dX0_isKnown_70 ev22 ?_
        refine g_icmp_ne (tgt := 78) dX0_isKnown_71 (by decide) (fun c23 => ?_) (fun c23 => ?_)
        · rw [if_neg c23] at hf
          refine g_iconst (v := 0) dX0_isKnown_78 (by decide) ?_
          exact g_iret dX0_isKnown_79 rfl (by decide) hX2 hX1 hf
        · rw [if_pos c23] at hf
          refine g_iconst (v := 1) dX0_isKnown_74 (by decide) ?_
          refine g_goto (tgt := 79) dX0_isKnown_75 (by decide) ?_
          exact g_iret dX0_isKnown_79 rfl (by decide) hX2 hX1 hf
  · rw [if_pos c3] at hf
    refine g_aload_n (j := 1) dX0_isKnown_13 rfl rfl ?_
    refine g_aload_n (j := 2) dX0_isKnown_14 rfl rfl ?_
    obtain ⟨v24, ev24, hf⟩ := ob hf
    refine g_getFN dX0_isKnown_15 ev24 t_1449 hin13 hc13 (by decide) rfl ?_
    refine g_iload_n (j := 3) dX0_isKnown_18 rfl rfl ?_
    obtain ⟨v25, ev25, hf⟩ := ob hf
    refine g_iald dX0_isKnown_19 ev25 ?_
    refine g_iconst (v := 0) dX0_isKnown_20 (by decide) ?_
    obtain ⟨_, h28, hf⟩ := ob hf
    obtain ⟨σ26, v27, eσ26, hf⟩ := cb_el hf
    refine g_callV_i dX0_isKnown_21 (wX0_find _ eσ26) (okX0_find _ (by decide) (by decide)) (ckK_el h28) hc4 t_1485 t_973 s_X0_find rfl (Nat.le_trans (cat_le _) (Nat.le_of_ble_eq_true rfl)) rfl ?_
    refine g_iconst (v := (-1)) dX0_isKnown_24 (by decide) ?_
    refine g_icmp_eq (tgt := 32) dX0_isKnown_25 (by decide) (fun c29 => ?_) (fun c29 => ?_)
    · rw [if_pos c29] at hf
      refine g_iconst (v := 0) dX0_isKnown_32 (by decide) ?_
      exact g_iret dX0_isKnown_33 rfl (by decide) hX2 hX1 hf
    · rw [if_neg c29] at hf
      refine g_iconst (v := 1) dX0_isKnown_28 (by decide) ?_
      refine g_goto (tgt := 33) dX0_isKnown_29 (by decide) ?_
      exact g_iret dX0_isKnown_33 rfl (by decide) hX2 hX1 hf

theorem okX0_isKnown (M : Mt) (h1 : 3 + 1 ≤ M.2.2.2.2.1) (h2 : 8 + (5 + 11) + 127 ≤ M.2.2.2.2.2.1) : CallOk M MtX0_isKnown yX0_isKnown 2 := ⟨t_1484, h1, h2, ⟨by decide, by decide⟩, by decide +kernel, t_13⟩
abbrev MtX0_firstUnknown : Mt := (cX0_firstUnknown, 4, "ExactlySaid$Book", (Option.some Jvm.ClassFile.FieldType.int), 4, 151, false)
set_option maxRecDepth 100000 in
set_option maxHeartbeats 4000000 in
theorem bX0_firstUnknown_44 {X : Xt} {σf : St} {r : Int32} (hX1 : X.2.2.1 = σf) (hX2 : X.2.2.2 = .inl (some (.int r))) {k4 : St → Nat → Nat → Int32 → Int32 → Option (St × Int32)} (hk4 : ∀ (σ : St) (x0 : Nat) (x1 : Nat) (x2 : Int32) (x3 : Int32), k4 σ x0 x1 x2 x3 = some (σf, r) → G MtX0_firstUnknown X σ 4 [(0, rv x0), (1, rv x1), (2, .int x2), (3, .int x3)] []) {σ : St} {x0 : Nat} {x1 : Nat} {x2 : Int32} {x3 : Int32} (hf : fX0_firstUnknown_44 k4 σ x0 x1 x2 x3 = some (σf, r)) : G MtX0_firstUnknown X σ 44 [(0, rv x0), (1, rv x1), (2, .int x2), (3, .int x3)] [] := by
  unfold fX0_firstUnknown_44 at hf
  obtain ⟨v1, ev1, hf⟩ := nm_el hf
  refine g_iinc (L' := [(3, .int v1), (0, rv x0), (1, rv x1), (2, .int x2)]) (j := 3) (v := v1) dX0_firstUnknown_44 rfl (by rw [ev1]; rfl) (Nat.le_of_ble_eq_true rfl) rfl ?_
  refine g_goto (tgt := 4) dX0_firstUnknown_47 (by decide) ?_
  refine g_sub (L' := [(0, rv x0), (1, rv x1), (2, .int x2), (3, .int v1)]) [1, 2, 3, 0] rfl ?_
  exact hk4 _ _ _ _ _ hf

set_option maxRecDepth 100000 in
set_option maxHeartbeats 4000000 in
theorem bX0_firstUnknown_37 {X : Xt} {σf : St} {r : Int32} (hX1 : X.2.2.1 = σf) (hX2 : X.2.2.2 = .inl (some (.int r))) {k4 : St → Nat → Nat → Int32 → Int32 → Option (St × Int32)} (hk4 : ∀ (σ : St) (x0 : Nat) (x1 : Nat) (x2 : Int32) (x3 : Int32), k4 σ x0 x1 x2 x3 = some (σf, r) → G MtX0_firstUnknown X σ 4 [(0, rv x0), (1, rv x1), (2, .int x2), (3, .int x3)] []) {σ : St} {x0 : Nat} {x1 : Nat} {x3 : Int32} (hf : fX0_firstUnknown_37 k4 σ x0 x1 x3 = some (σf, r)) : G MtX0_firstUnknown X σ 37 [(0, rv x0), (1, rv x1), (3, .int x3)] [] := by
  unfold fX0_firstUnknown_37 at hf
  refine g_aload_n (j := 1) dX0_firstUnknown_37 rfl rfl ?_
  obtain ⟨v1, ev1, hf⟩ := ob hf
  refine g_getFN dX0_firstUnknown_38 ev1 t_1452 hin13 hc13 (by decide) rfl ?_
  refine g_iload_n (j := 2) dX0_firstUnknown_41 rfl rfl ?_
  obtain ⟨v2, ev2, hf⟩ := ob hf
  refine g_iald dX0_firstUnknown_42 ev2 ?_
  refine g_istore_n (i := 2) (L' := [(2, .int v2), (0, rv x0), (1, rv x1), (3, .int x3)]) dX0_firstUnknown_43 rfl (Nat.le_of_ble_eq_true rfl) (by simp [rv_cat]) ?_
  refine g_sub (L' := [(0, rv x0), (1, rv x1), (2, .int v2), (3, .int x3)]) [1, 2, 0, 3] rfl ?_
  exact bX0_firstUnknown_44 hX1 hX2 hk4 hf

set_option maxRecDepth 100000 in
set_option maxHeartbeats 4000000 in
theorem bX0_firstUnknown_4 {X : Xt} {σf : St} {r : Int32} (hX1 : X.2.2.1 = σf) (hX2 : X.2.2.2 = .inl (some (.int r))) : ∀ (n : Nat) (σ : St) (x0 : Nat) (x1 : Nat) (x2 : Int32) (x3 : Int32), fX0_firstUnknown_4 n σ x0 x1 x2 x3 = some (σf, r) → G MtX0_firstUnknown X σ 4 [(0, rv x0), (1, rv x1), (2, .int x2), (3, .int x3)] [] := by
  intro n
  induction n with
  | zero => intro σ x0 x1 x2 x3 hf; cases hf
  | succ n ih =>
    intro σ x0 x1 x2 x3 hf
    rw [fX0_firstUnknown_4] at hf
    refine g_iload_n (j := 3) dX0_firstUnknown_4 rfl rfl ?_
    refine g_aload_n (j := 1) dX0_firstUnknown_5 rfl rfl ?_
    obtain ⟨v1, ev1, hf⟩ := ob hf
    refine g_getFN dX0_firstUnknown_6 ev1 t_1446 hin13 hc13 (by decide) rfl ?_
    obtain ⟨v2, ev2, hf⟩ := ob hf
    refine g_alen dX0_firstUnknown_9 ev2 ?_
    refine g_icmp_ge (tgt := 50) dX0_firstUnknown_10 (by decide) (fun c3 => ?_) (fun c3 => ?_)
    · rw [if_pos c3] at hf
      refine g_iload_n (j := 2) dX0_firstUnknown_50 rfl rfl ?_
      exact g_iret dX0_firstUnknown_51 rfl rfl hX2 hX1 hf
    · rw [if_neg c3] at hf
      refine g_aload_n (j := 0) dX0_firstUnknown_13 rfl rfl ?_
      refine g_aload_n (j := 1) dX0_firstUnknown_14 rfl rfl ?_
      refine g_iload_n (j := 3) dX0_firstUnknown_15 rfl rfl ?_
      obtain ⟨_, h6, hf⟩ := ob hf
      obtain ⟨σ4, v5, eσ4, hf⟩ := cb_el hf
      refine g_callV_i dX0_firstUnknown_16 (wX0_isKnown _ eσ4) (okX0_isKnown _ (by decide) (by decide)) (ckK_el h6) hc4 t_1481 t_1483 s_X0_isKnown rfl (Nat.le_trans (cat_le _) (Nat.le_of_ble_eq_true rfl)) rfl ?_
      refine g_if_ne (tgt := 44) dX0_firstUnknown_19 (by decide) (fun c7 => ?_) (fun c7 => ?_)
      · rw [if_neg c7] at hf
        exact bX0_firstUnknown_44 hX1 hX2 (fun σ x0 x1 x2 x3 hf => ih σ x0 x1 x2 x3 hf) hf
      · rw [if_pos c7] at hf
        refine g_iload_n (j := 2) dX0_firstUnknown_22 rfl rfl ?_
        refine g_iconst (v := (-1)) dX0_firstUnknown_23 (by decide) ?_
        refine g_icmp_eq (tgt := 37) dX0_firstUnknown_24 (by decide) (fun c8 => ?_) (fun c8 => ?_)
        · rw [if_pos c8] at hf
          refine g_sub (L' := [(0, rv x0), (1, rv x1), (3, .int x3)]) [0, 1, 3] rfl ?_
          exact bX0_firstUnknown_37 hX1 hX2 (fun σ x0 x1 x2 x3 hf => ih σ x0 x1 x2 x3 hf) hf
        · rw [if_neg c8] at hf
          refine g_aload_n (j := 1) dX0_firstUnknown_27 rfl rfl ?_
          obtain ⟨v9, ev9, hf⟩ := ob hf
          refine g_getFN dX0_firstUnknown_28 ev9 t_1452 hin13 hc13 (by decide) rfl ?_
          refine g_iload_n (j := 3) dX0_firstUnknown_31 rfl rfl ?_
          obtain ⟨v10, ev10, hf⟩ := ob hf
          refine g_iald dX0_firstUnknown_32 ev10 ?_
          refine g_iload_n (j := 2) dX0_firstUnknown_33 rfl rfl ?_
          refine g_icmp_ge (tgt := 44) dX0_firstUnknown_34 (by decide) (fun c11 => ?_) (fun c11 => ?_)
          · rw [if_pos c11] at hf
            exact bX0_firstUnknown_44 hX1 hX2 (fun σ x0 x1 x2 x3 hf => ih σ x0 x1 x2 x3 hf) hf
          · rw [if_neg c11] at hf
            refine g_sub (L' := [(0, rv x0), (1, rv x1), (3, .int x3)]) [0, 1, 3] rfl ?_
            exact bX0_firstUnknown_37 hX1 hX2 (fun σ x0 x1 x2 x3 hf => ih σ x0 x1 x2 x3 hf) hf

set_option maxRecDepth 100000 in
set_option maxHeartbeats 4000000 in
theorem wX0_firstUnknown (l : Launch) {σ σf : St} {x0 : Nat} {x1 : Nat} {r : Int32} (hf : fX0_firstUnknown σ x0 x1 = some (σf, r)) : Con MtX0_firstUnknown yX0_firstUnknown l σ [rv x0, rv x1] σf (some (.int r)) := by
  refine Con.of (by decide +kernel) rfl (fun h => absurd (show false = true from h) (by decide)) (by simp only [sl_n, sl_r, sl_i, sl_l]; exact Nat.le_of_ble_eq_true rfl) ?_
  rw [show lv_args 0 [rv x0, rv x1] = [(0, rv x0), (1, rv x1)] by simp only [la_n, la_r, la_i, la_l] <;> rfl]
  have hX1 : ((l, σ, σf, .inl (some (.int r))) : Xt).2.2.1 = σf := rfl
  have hX2 : ((l, σ, σf, .inl (some (.int r))) : Xt).2.2.2 = .inl (some (.int r)) := rfl
  unfold fX0_firstUnknown at hf
  refine g_iconst (v := (-1)) dX0_firstUnknown_0 (by decide) ?_
  refine g_istore_n (i := 2) (L' := [(2, .int ((-1))), (0, rv x0), (1, rv x1)]) dX0_firstUnknown_1 rfl (Nat.le_of_ble_eq_true rfl) (by simp [rv_cat]) ?_
  refine g_iconst (v := 0) dX0_firstUnknown_2 (by decide) ?_
  refine g_istore_n (i := 3) (L' := [(3, .int 0), (2, .int ((-1))), (0, rv x0), (1, rv x1)]) dX0_firstUnknown_3 rfl (Nat.le_of_ble_eq_true rfl) rfl ?_
  refine g_sub (L' := [(0, rv x0), (1, rv x1), (2, .int ((-1))), (3, .int 0)]) [2, 3, 1, 0] rfl ?_
  exact bX0_firstUnknown_4 hX1 hX2 FU _ _ _ _ _ hf

theorem okX0_firstUnknown (M : Mt) (h1 : 4 + 1 ≤ M.2.2.2.2.1) (h2 : 8 + (4 + 11) + 151 ≤ M.2.2.2.2.2.1) : CallOk M MtX0_firstUnknown yX0_firstUnknown 1 := ⟨t_1480, h1, h2, ⟨by decide, by decide⟩, by decide +kernel, t_13⟩
abbrev MtX11_refuse : Mt := (cX11_refuse, 3, "ExactlySaid", none, 1, 84, false)
set_option maxRecDepth 100000 in
set_option maxHeartbeats 4000000 in
theorem wX11_refuse (l : Launch) {σ σf : St} {x0 : Nat} {x1 : Int32} {x2 : Int32} {r : Unit} (hf : fX11_refuse σ x0 x1 x2 = some (σf, r)) : Con MtX11_refuse yX11_refuse l σ [rv x0, .int x1, .int x2] σf (none) := by
  refine Con.of (by decide +kernel) rfl (fun h => absurd (show false = true from h) (by decide)) (by simp only [sl_n, sl_r, sl_i, sl_l]; exact Nat.le_of_ble_eq_true rfl) ?_
  rw [show lv_args 0 [rv x0, .int x1, .int x2] = [(0, rv x0), (1, .int x1), (2, .int x2)] by simp only [la_n, la_r, la_i, la_l] <;> rfl]
  have hX1 : ((l, σ, σf, .inl (none)) : Xt).2.2.1 = σf := rfl
  have hX2 : ((l, σ, σf, .inl (none)) : Xt).2.2.2 = .inl (none) := rfl
  unfold fX11_refuse at hf
  refine g_aload_n (j := 0) dX11_refuse_0 rfl rfl ?_
  refine g_iload_n (j := 1) dX11_refuse_1 rfl rfl ?_
  obtain ⟨σ1, eσ1, hf⟩ := ob hf
  refine g_putI dX11_refuse_2 eσ1 (Or.inl t_378) hin15 hc15 (by decide) hty15 hnm15 (Or.inl rfl) rfl rfl rfl ?_
  refine g_aload_n (j := 0) dX11_refuse_5 rfl rfl ?_
  refine g_iload_n (j := 2) dX11_refuse_6 rfl rfl ?_
  obtain ⟨σ2, eσ2, hf⟩ := ob hf
  refine g_putI dX11_refuse_7 eσ2 (Or.inl t_379) hin15 hc15 (by decide) hty15 hnm15 (Or.inl rfl) rfl rfl rfl ?_
  refine g_aload_n (j := 0) dX11_refuse_10 rfl rfl ?_
  refine g_iconst (v := (-1)) dX11_refuse_11 (by decide) ?_
  obtain ⟨σ3, eσ3, hf⟩ := ob hf
  refine g_putI dX11_refuse_12 eσ3 (Or.inl t_380) hin15 hc15 (by decide) hty15 hnm15 (Or.inl rfl) rfl rfl rfl ?_
  refine g_aload_n (j := 0) dX11_refuse_15 rfl rfl ?_
  refine g_iconst (v := 0) dX11_refuse_16 (by decide) ?_
  obtain ⟨σ4, eσ4, hf⟩ := ob hf
  refine g_putI dX11_refuse_17 eσ4 (Or.inl t_382) hin15 hc15 (by decide) hty15 hnm15 (Or.inl rfl) rfl rfl rfl ?_
  exact g_vret dX11_refuse_20 rfl hX2 hX1 hf

theorem okX11_refuse (M : Mt) (h1 : 1 + 1 ≤ M.2.2.2.2.1) (h2 : 8 + (3 + 11) + 84 ≤ M.2.2.2.2.2.1) : CallOk M MtX11_refuse yX11_refuse 2 := ⟨t_1495, h1, h2, ⟨by decide, by decide⟩, by decide +kernel, t_1⟩
abbrev MtX0_isUsing : Mt := (cX0_isUsing, 3, "ExactlySaid$Book", (Option.some Jvm.ClassFile.FieldType.boolean), 1, 84, false)
set_option maxRecDepth 100000 in
set_option maxHeartbeats 4000000 in
theorem wX0_isUsing (l : Launch) {σ σf : St} {x0 : Nat} {x1 : Int32} {x2 : Int32} {r : Int32} (hf : fX0_isUsing σ x0 x1 x2 = some (σf, r)) : Con MtX0_isUsing yX0_isUsing l σ [rv x0, .int x1, .int x2] σf (some (.int r)) := by
  refine Con.of (by decide +kernel) rfl (fun h => absurd (show false = true from h) (by decide)) (by simp only [sl_n, sl_r, sl_i, sl_l]; exact Nat.le_of_ble_eq_true rfl) ?_
  rw [show lv_args 0 [rv x0, .int x1, .int x2] = [(0, rv x0), (1, .int x1), (2, .int x2)] by simp only [la_n, la_r, la_i, la_l] <;> rfl]
  have hX1 : ((l, σ, σf, .inl (some (.int r))) : Xt).2.2.1 = σf := rfl
  have hX2 : ((l, σ, σf, .inl (some (.int r))) : Xt).2.2.2 = .inl (some (.int r)) := rfl
  unfold fX0_isUsing at hf
  refine g_iload_n (j := 1) dX0_isUsing_0 rfl rfl ?_
  refine g_if_lt (tgt := 30) dX0_isUsing_1 (by decide) (fun c1 => ?_) (fun c1 => ?_)
  · rw [if_pos c1] at hf
    refine g_iconst (v := 0) dX0_isUsing_30 (by decide) ?_
    exact g_iret dX0_isUsing_31 rfl (by decide) hX2 hX1 hf
  · rw [if_neg c1] at hf
    refine g_iload_n (j := 1) dX0_isUsing_4 rfl rfl ?_
    refine g_aload_n (j := 0) dX0_isUsing_5 rfl rfl ?_
    obtain ⟨v2, ev2, hf⟩ := ob hf
    refine g_getF dX0_isUsing_6 ev2 t_339 hin4 hc4 (by decide) rfl ?_
    obtain ⟨v3, ev3, hf⟩ := ob hf
    refine g_alen dX0_isUsing_9 ev3 ?_
    refine g_icmp_ge (tgt := 30) dX0_isUsing_10 (by decide) (fun c4 => ?_) (fun c4 => ?_)
    · rw [if_pos c4] at hf
      refine g_iconst (v := 0) dX0_isUsing_30 (by decide) ?_
      exact g_iret dX0_isUsing_31 rfl (by decide) hX2 hX1 hf
    · rw [if_neg c4] at hf
      refine g_aload_n (j := 0) dX0_isUsing_13 rfl rfl ?_
      obtain ⟨v5, ev5, hf⟩ := ob hf
      refine g_getF dX0_isUsing_14 ev5 t_339 hin4 hc4 (by decide) rfl ?_
      refine g_iload_n (j := 1) dX0_isUsing_17 rfl rfl ?_
      obtain ⟨v6, ev6, hf⟩ := ob hf
      refine g_iald dX0_isUsing_18 ev6 ?_
      refine g_iload_n (j := 2) dX0_isUsing_19 rfl rfl ?_
      refine g_iushr dX0_isUsing_20 rfl ?_
      refine g_iconst (v := 1) dX0_isUsing_21 (by decide) ?_
      refine g_iand dX0_isUsing_22 ?_
      refine g_if_eq (tgt := 30) dX0_isUsing_23 (by decide) (fun c7 => ?_) (fun c7 => ?_)
      · rw [if_pos c7] at hf
        refine g_iconst (v := 0) dX0_isUsing_30 (by decide) ?_
        exact g_iret dX0_isUsing_31 rfl (by decide) hX2 hX1 hf
      · rw [if_neg c7] at hf
        refine g_iconst (v := 1) dX0_isUsing_26 (by decide) ?_
        refine g_goto (tgt := 31) dX0_isUsing_27 (by decide) ?_
        exact g_iret dX0_isUsing_31 rfl (by decide) hX2 hX1 hf

theorem okX0_isUsing (M : Mt) (h1 : 1 + 1 ≤ M.2.2.2.2.1) (h2 : 8 + (3 + 11) + 84 ≤ M.2.2.2.2.2.1) : CallOk M MtX0_isUsing yX0_isUsing 2 := ⟨t_978, h1, h2, ⟨by decide, by decide⟩, by decide +kernel, t_13⟩
abbrev MtX0_isUsed : Mt := (cX0_isUsed, 3, "ExactlySaid$Book", (Option.some Jvm.ClassFile.FieldType.boolean), 2, 106, false)
set_option maxRecDepth 100000 in
set_option maxHeartbeats 4000000 in
theorem bX0_isUsed_2 {X : Xt} {σf : St} {r : Int32} (hX1 : X.2.2.1 = σf) (hX2 : X.2.2.2 = .inl (some (.int r))) : ∀ (n : Nat) (σ : St) (x0 : Nat) (x1 : Int32) (x2 : Int32), fX0_isUsed_2 n σ x0 x1 x2 = some (σf, r) → G MtX0_isUsed X σ 2 [(0, rv x0), (1, .int x1), (2, .int x2)] [] := by
  intro n
  induction n with
  | zero => intro σ x0 x1 x2 hf; cases hf
  | succ n ih =>
    intro σ x0 x1 x2 hf
    rw [fX0_isUsed_2] at hf
    refine g_iload_n (j := 2) dX0_isUsed_2 rfl rfl ?_
    refine g_aload_n (j := 0) dX0_isUsed_3 rfl rfl ?_
    obtain ⟨v1, ev1, hf⟩ := ob hf
    refine g_getF dX0_isUsed_4 ev1 t_339 hin4 hc4 (by decide) rfl ?_
    obtain ⟨v2, ev2, hf⟩ := ob hf
    refine g_alen dX0_isUsed_7 ev2 ?_
    refine g_icmp_ge (tgt := 28) dX0_isUsed_8 (by decide) (fun c3 => ?_) (fun c3 => ?_)
    · rw [if_pos c3] at hf
      refine g_iconst (v := 0) dX0_isUsed_28 (by decide) ?_
      exact g_iret dX0_isUsed_29 rfl (by decide) hX2 hX1 hf
    · rw [if_neg c3] at hf
      refine g_aload_n (j := 0) dX0_isUsed_11 rfl rfl ?_
      refine g_iload_n (j := 2) dX0_isUsed_12 rfl rfl ?_
      refine g_iload_n (j := 1) dX0_isUsed_13 rfl rfl ?_
      obtain ⟨_, h6, hf⟩ := ob hf
      obtain ⟨σ4, v5, eσ4, hf⟩ := cb_el hf
      refine g_callV_i dX0_isUsed_14 (wX0_isUsing _ eσ4) (okX0_isUsing _ (by decide) (by decide)) (ckK_el h6) hc4 t_987 t_977 s_X0_isUsing rfl (Nat.le_trans (cat_le _) (Nat.le_of_ble_eq_true rfl)) rfl ?_
      refine g_if_eq (tgt := 22) dX0_isUsed_17 (by decide) (fun c7 => ?_) (fun c7 => ?_)
      · rw [if_pos c7] at hf
        obtain ⟨v8, ev8, hf⟩ := nm_el hf
        refine g_iinc (L' := [(2, .int v8), (0, rv x0), (1, .int x1)]) (j := 2) (v := v8) dX0_isUsed_22 rfl (by rw [ev8]; rfl) (Nat.le_of_ble_eq_true rfl) rfl ?_
        refine g_goto (tgt := 2) dX0_isUsed_25 (by decide) ?_
        refine g_sub (L' := [(0, rv x0), (1, .int x1), (2, .int v8)]) [1, 2, 0] rfl ?_
        exact ih _ _ _ _ hf
      · rw [if_neg c7] at hf
        refine g_iconst (v := 1) dX0_isUsed_20 (by decide) ?_
        exact g_iret dX0_isUsed_21 rfl (by decide) hX2 hX1 hf

set_option maxRecDepth 100000 in
set_option maxHeartbeats 4000000 in
theorem wX0_isUsed (l : Launch) {σ σf : St} {x0 : Nat} {x1 : Int32} {r : Int32} (hf : fX0_isUsed σ x0 x1 = some (σf, r)) : Con MtX0_isUsed yX0_isUsed l σ [rv x0, .int x1] σf (some (.int r)) := by
  refine Con.of (by decide +kernel) rfl (fun h => absurd (show false = true from h) (by decide)) (by simp only [sl_n, sl_r, sl_i, sl_l]; exact Nat.le_of_ble_eq_true rfl) ?_
  rw [show lv_args 0 [rv x0, .int x1] = [(0, rv x0), (1, .int x1)] by simp only [la_n, la_r, la_i, la_l] <;> rfl]
  have hX1 : ((l, σ, σf, .inl (some (.int r))) : Xt).2.2.1 = σf := rfl
  have hX2 : ((l, σ, σf, .inl (some (.int r))) : Xt).2.2.2 = .inl (some (.int r)) := rfl
  unfold fX0_isUsed at hf
  refine g_iconst (v := 0) dX0_isUsed_0 (by decide) ?_
  refine g_istore_n (i := 2) (L' := [(2, .int 0), (0, rv x0), (1, .int x1)]) dX0_isUsed_1 rfl (Nat.le_of_ble_eq_true rfl) rfl ?_
  refine g_sub (L' := [(0, rv x0), (1, .int x1), (2, .int 0)]) [1, 2, 0] rfl ?_
  exact bX0_isUsed_2 hX1 hX2 FU _ _ _ _ hf

theorem okX0_isUsed (M : Mt) (h1 : 2 + 1 ≤ M.2.2.2.2.1) (h2 : 8 + (3 + 11) + 106 ≤ M.2.2.2.2.2.1) : CallOk M MtX0_isUsed yX0_isUsed 1 := ⟨t_1504, h1, h2, ⟨by decide, by decide⟩, by decide +kernel, t_13⟩
abbrev MtX11_isTaken : Mt := (cX11_isTaken, 3, "ExactlySaid", (Option.some Jvm.ClassFile.FieldType.boolean), 3, 128, false)
set_option maxRecDepth 100000 in
set_option maxHeartbeats 4000000 in
theorem wX11_isTaken (l : Launch) {σ σf : St} {x0 : Nat} {x1 : Nat} {x2 : Int32} {r : Int32} (hf : fX11_isTaken σ x0 x1 x2 = some (σf, r)) : Con MtX11_isTaken yX11_isTaken l σ [rv x0, rv x1, .int x2] σf (some (.int r)) := by
  refine Con.of (by decide +kernel) rfl (fun h => absurd (show false = true from h) (by decide)) (by simp only [sl_n, sl_r, sl_i, sl_l]; exact Nat.le_of_ble_eq_true rfl) ?_
  rw [show lv_args 0 [rv x0, rv x1, .int x2] = [(0, rv x0), (1, rv x1), (2, .int x2)] by simp only [la_n, la_r, la_i, la_l] <;> rfl]
  have hX1 : ((l, σ, σf, .inl (some (.int r))) : Xt).2.2.1 = σf := rfl
  have hX2 : ((l, σ, σf, .inl (some (.int r))) : Xt).2.2.2 = .inl (some (.int r)) := rfl
  unfold fX11_isTaken at hf
  refine g_aload_n (j := 0) dX11_isTaken_0 rfl rfl ?_
  obtain ⟨v1, ev1, hf⟩ := ob hf
  refine g_getF dX11_isTaken_1 ev1 t_392 hin15 hc15 (by decide) rfl ?_
  obtain ⟨v2, ev2, hf⟩ := ob hf
  refine g_getIN dX11_isTaken_4 ev2 t_233 hin8 hc8 (by decide) rfl ?_
  obtain ⟨σ3, v4, eσ3, hf⟩ := cb_el hf
  refine g_callS_i dX11_isTaken_7 (wX11_stepOf _ eσ3) (okX11_stepOf _ (by decide) (by decide)) t_1500 t_1409 rfl (Nat.le_trans (cat_le _) (Nat.le_of_ble_eq_true rfl)) rfl ?_
  refine g_if_eq (tgt := 15) dX11_isTaken_10 (by decide) (fun c5 => ?_) (fun c5 => ?_)
  · rw [if_pos c5] at hf
    refine g_iload_n (j := 2) dX11_isTaken_15 rfl rfl ?_
    refine g_iconst (v := (-1)) dX11_isTaken_16 (by decide) ?_
    refine g_icmp_eq (tgt := 58) dX11_isTaken_17 (by decide) (fun c6 => ?_) (fun c6 => ?_)
    · rw [if_pos c6] at hf
      refine g_iconst (v := 0) dX11_isTaken_58 (by decide) ?_
      exact g_iret dX11_isTaken_59 rfl (by decide) hX2 hX1 hf
    · rw [if_neg c6] at hf
      refine g_aload_n (j := 0) dX11_isTaken_20 rfl rfl ?_
      obtain ⟨v7, ev7, hf⟩ := ob hf
      refine g_getF dX11_isTaken_21 ev7 t_392 hin15 hc15 (by decide) rfl ?_
      obtain ⟨v8, ev8, hf⟩ := ob hf
      refine g_getIN dX11_isTaken_24 ev8 t_231 hin8 hc8 (by decide) rfl ?_
      refine g_iconst (v := 2) dX11_isTaken_27 (by decide) ?_
      refine g_icmp_ne (tgt := 58) dX11_isTaken_28 (by decide) (fun c9 => ?_) (fun c9 => ?_)
      · rw [if_neg c9] at hf
        refine g_iconst (v := 0) dX11_isTaken_58 (by decide) ?_
        exact g_iret dX11_isTaken_59 rfl (by decide) hX2 hX1 hf
      · rw [if_pos c9] at hf
        refine g_aload_n (j := 1) dX11_isTaken_31 rfl rfl ?_
        refine g_iload_n (j := 2) dX11_isTaken_32 rfl rfl ?_
        obtain ⟨_, h12, hf⟩ := ob hf
        obtain ⟨σ10, v11, eσ10, hf⟩ := cb_el hf
        refine g_callVN_i dX11_isTaken_33 (wX0_isUsed _ eσ10) (okX0_isUsed _ (by decide) (by decide)) (ckK_el h12) hc4 t_1501 t_1503 s_X0_isUsed rfl (Nat.le_trans (cat_le _) (Nat.le_of_ble_eq_true rfl)) rfl ?_
        refine g_if_eq (tgt := 58) dX11_isTaken_36 (by decide) (fun c13 => ?_) (fun c13 => ?_)
        · rw [if_pos c13] at hf
          refine g_iconst (v := 0) dX11_isTaken_58 (by decide) ?_
          exact g_iret dX11_isTaken_59 rfl (by decide) hX2 hX1 hf
        · rw [if_neg c13] at hf
          refine g_aload_n (j := 1) dX11_isTaken_39 rfl rfl ?_
          refine g_iload_n (j := 2) dX11_isTaken_40 rfl rfl ?_
          obtain ⟨_, h16, hf⟩ := ob hf
          obtain ⟨σ14, v15, eσ14, hf⟩ := cb_el hf
          refine g_callVN_i dX11_isTaken_41 (wX0_parametersOf _ eσ14) (okX0_parametersOf _ (by decide) (by decide)) (ckK_el h16) hc4 t_1505 t_1488 s_X0_parametersOf rfl (Nat.le_trans (cat_le _) (Nat.le_of_ble_eq_true rfl)) rfl ?_
          refine g_aload_n (j := 0) dX11_isTaken_44 rfl rfl ?_
          obtain ⟨v17, ev17, hf⟩ := ob hf
          refine g_getF dX11_isTaken_45 ev17 t_392 hin15 hc15 (by decide) rfl ?_
          obtain ⟨v18, ev18, hf⟩ := ob hf
          refine g_getIN dX11_isTaken_48 ev18 t_239 hin8 hc8 (by decide) rfl ?_
          refine g_icmp_eq (tgt := 58) dX11_isTaken_51 (by decide) (fun c19 => ?_) (fun c19 => ?_)
          · rw [if_pos c19] at hf
            refine g_iconst (v := 0) dX11_isTaken_58 (by decide) ?_
            exact g_iret dX11_isTaken_59 rfl (by decide) hX2 hX1 hf
          · rw [if_neg c19] at hf
            refine g_iconst (v := 1) dX11_isTaken_54 (by decide) ?_
            refine g_goto (tgt := 59) dX11_isTaken_55 (by decide) ?_
            exact g_iret dX11_isTaken_59 rfl (by decide) hX2 hX1 hf
  · rw [if_neg c5] at hf
    refine g_iconst (v := 1) dX11_isTaken_13 (by decide) ?_
    exact g_iret dX11_isTaken_14 rfl (by decide) hX2 hX1 hf

theorem okX11_isTaken (M : Mt) (h1 : 3 + 1 ≤ M.2.2.2.2.1) (h2 : 8 + (3 + 11) + 128 ≤ M.2.2.2.2.2.1) : CallOk M MtX11_isTaken yX11_isTaken 2 := ⟨t_1499, h1, h2, ⟨by decide, by decide⟩, by decide +kernel, t_1⟩
abbrev MtX11_isFull : Mt := (cX11_isFull, 2, "ExactlySaid", (Option.some Jvm.ClassFile.FieldType.boolean), 1, 84, false)
set_option maxRecDepth 100000 in
set_option maxHeartbeats 4000000 in
theorem wX11_isFull (l : Launch) {σ σf : St} {x0 : Nat} {x1 : Nat} {r : Int32} (hf : fX11_isFull σ x0 x1 = some (σf, r)) : Con MtX11_isFull yX11_isFull l σ [rv x0, rv x1] σf (some (.int r)) := by
  refine Con.of (by decide +kernel) rfl (fun h => absurd (show false = true from h) (by decide)) (by simp only [sl_n, sl_r, sl_i, sl_l]; exact Nat.le_of_ble_eq_true rfl) ?_
  rw [show lv_args 0 [rv x0, rv x1] = [(0, rv x0), (1, rv x1)] by simp only [la_n, la_r, la_i, la_l] <;> rfl]
  have hX1 : ((l, σ, σf, .inl (some (.int r))) : Xt).2.2.1 = σf := rfl
  have hX2 : ((l, σ, σf, .inl (some (.int r))) : Xt).2.2.2 = .inl (some (.int r)) := rfl
  unfold fX11_isFull at hf
  refine g_aload_n (j := 0) dX11_isFull_0 rfl rfl ?_
  obtain ⟨v1, ev1, hf⟩ := ob hf
  refine g_getF dX11_isFull_1 ev1 t_392 hin15 hc15 (by decide) rfl ?_
  obtain ⟨v2, ev2, hf⟩ := ob hf
  refine g_getIN dX11_isFull_4 ev2 t_231 hin8 hc8 (by decide) rfl ?_
  refine g_iconst (v := 2) dX11_isFull_7 (by decide) ?_
  refine g_icmp_ne (tgt := 27) dX11_isFull_8 (by decide) (fun c3 => ?_) (fun c3 => ?_)
  · rw [if_neg c3] at hf
    refine g_aload_n (j := 1) dX11_isFull_27 rfl rfl ?_
    obtain ⟨v4, ev4, hf⟩ := ob hf
    refine g_getFN dX11_isFull_28 ev4 t_335 hin4 hc4 (by decide) rfl ?_
    obtain ⟨v5, ev5, hf⟩ := ob hf
    refine g_alen dX11_isFull_31 ev5 ?_
    refine g_bipush (v := 20) dX11_isFull_32 (by decide) ?_
    refine g_icmp_lt (tgt := 41) dX11_isFull_34 (by decide) (fun c6 => ?_) (fun c6 => ?_)
    · rw [if_pos c6] at hf
      refine g_iconst (v := 0) dX11_isFull_41 (by decide) ?_
      exact g_iret dX11_isFull_42 rfl (by decide) hX2 hX1 hf
    · rw [if_neg c6] at hf
      refine g_iconst (v := 1) dX11_isFull_37 (by decide) ?_
      refine g_goto (tgt := 42) dX11_isFull_38 (by decide) ?_
      exact g_iret dX11_isFull_42 rfl (by decide) hX2 hX1 hf
  · rw [if_pos c3] at hf
    refine g_aload_n (j := 1) dX11_isFull_11 rfl rfl ?_
    obtain ⟨v7, ev7, hf⟩ := ob hf
    refine g_getFN dX11_isFull_12 ev7 t_337 hin4 hc4 (by decide) rfl ?_
    obtain ⟨v8, ev8, hf⟩ := ob hf
    refine g_alen dX11_isFull_15 ev8 ?_
    refine g_bipush (v := 10) dX11_isFull_16 (by decide) ?_
    refine g_icmp_lt (tgt := 25) dX11_isFull_18 (by decide) (fun c9 => ?_) (fun c9 => ?_)
    · rw [if_pos c9] at hf
      refine g_iconst (v := 0) dX11_isFull_25 (by decide) ?_
      exact g_iret dX11_isFull_26 rfl (by decide) hX2 hX1 hf
    · rw [if_neg c9] at hf
      refine g_iconst (v := 1) dX11_isFull_21 (by decide) ?_
      refine g_goto (tgt := 26) dX11_isFull_22 (by decide) ?_
      exact g_iret dX11_isFull_26 rfl (by decide) hX2 hX1 hf

theorem okX11_isFull (M : Mt) (h1 : 1 + 1 ≤ M.2.2.2.2.1) (h2 : 8 + (2 + 11) + 84 ≤ M.2.2.2.2.2.1) : CallOk M MtX11_isFull yX11_isFull 1 := ⟨t_1509, h1, h2, ⟨by decide, by decide⟩, by decide +kernel, t_1⟩
abbrev MtX0_usedBy : Mt := (cX0_usedBy, 5, "ExactlySaid$Book", (Option.some Jvm.ClassFile.FieldType.int), 2, 108, false)
set_option maxRecDepth 100000 in
set_option maxHeartbeats 4000000 in
theorem bX0_usedBy_80 {X : Xt} {σf : St} {r : Int32} (hX1 : X.2.2.1 = σf) (hX2 : X.2.2.2 = .inl (some (.int r))) {k4 : St → Nat → Nat → Int32 → Int32 → Option (St × Int32)} (hk4 : ∀ (σ : St) (x0 : Nat) (x1 : Nat) (x2 : Int32) (x3 : Int32), k4 σ x0 x1 x2 x3 = some (σf, r) → G MtX0_usedBy X σ 4 [(0, rv x0), (1, rv x1), (2, .int x2), (3, .int x3)] []) {σ : St} {x0 : Nat} {x1 : Nat} {x2 : Int32} {x3 : Int32} (hf : fX0_usedBy_80 k4 σ x0 x1 x2 x3 = some (σf, r)) : G MtX0_usedBy X σ 80 [(0, rv x0), (1, rv x1), (2, .int x2), (3, .int x3)] [] := by
  unfold fX0_usedBy_80 at hf
  obtain ⟨v1, ev1, hf⟩ := nm_el hf
  refine g_iinc (L' := [(3, .int v1), (0, rv x0), (1, rv x1), (2, .int x2)]) (j := 3) (v := v1) dX0_usedBy_80 rfl (by rw [ev1]; rfl) (Nat.le_of_ble_eq_true rfl) rfl ?_
  refine g_goto (tgt := 4) dX0_usedBy_83 (by decide) ?_
  refine g_sub (L' := [(0, rv x0), (1, rv x1), (2, .int x2), (3, .int v1)]) [1, 2, 3, 0] rfl ?_
  exact hk4 _ _ _ _ _ hf

set_option maxRecDepth 100000 in
set_option maxHeartbeats 4000000 in
theorem bX0_usedBy_78 {X : Xt} {σf : St} {r : Int32} (hX1 : X.2.2.1 = σf) (hX2 : X.2.2.2 = .inl (some (.int r))) {k4 : St → Nat → Nat → Int32 → Int32 → Option (St × Int32)} (hk4 : ∀ (σ : St) (x0 : Nat) (x1 : Nat) (x2 : Int32) (x3 : Int32), k4 σ x0 x1 x2 x3 = some (σf, r) → G MtX0_usedBy X σ 4 [(0, rv x0), (1, rv x1), (2, .int x2), (3, .int x3)] []) {σ : St} {x0 : Nat} {x1 : Nat} {x3 : Int32} {y0 : Int32} {y1 : Int32} (hf : fX0_usedBy_78 k4 σ x0 x1 x3 y0 y1 = some (σf, r)) : G MtX0_usedBy X σ 78 [(0, rv x0), (1, rv x1), (3, .int x3)] [.int y1, .int y0] := by
  unfold fX0_usedBy_78 at hf
  refine g_ior dX0_usedBy_78 ?_
  obtain ⟨v1, ev1, hf⟩ := nm_el hf
  refine g_topI ev1 ?_
  refine g_istore_n (i := 2) (L' := [(2, .int v1), (0, rv x0), (1, rv x1), (3, .int x3)]) dX0_usedBy_79 rfl (Nat.le_of_ble_eq_true rfl) (by simp [rv_cat]) ?_
  refine g_sub (L' := [(0, rv x0), (1, rv x1), (2, .int v1), (3, .int x3)]) [1, 2, 0, 3] rfl ?_
  exact bX0_usedBy_80 hX1 hX2 hk4 hf

set_option maxRecDepth 100000 in
set_option maxHeartbeats 4000000 in
theorem bX0_usedBy_58 {X : Xt} {σf : St} {r : Int32} (hX1 : X.2.2.1 = σf) (hX2 : X.2.2.2 = .inl (some (.int r))) {k4 : St → Nat → Nat → Int32 → Int32 → Option (St × Int32)} (hk4 : ∀ (σ : St) (x0 : Nat) (x1 : Nat) (x2 : Int32) (x3 : Int32), k4 σ x0 x1 x2 x3 = some (σf, r) → G MtX0_usedBy X σ 4 [(0, rv x0), (1, rv x1), (2, .int x2), (3, .int x3)] []) {σ : St} {x0 : Nat} {x1 : Nat} {x2 : Int32} {x3 : Int32} {y0 : Nat} {y1 : Int32} {y2 : Int32} (hf : fX0_usedBy_58 k4 σ x0 x1 x2 x3 y0 y1 y2 = some (σf, r)) : G MtX0_usedBy X σ 58 [(0, rv x0), (1, rv x1), (2, .int x2), (3, .int x3)] [.int y2, .int y1, rv y0] := by
  unfold fX0_usedBy_58 at hf
  obtain ⟨_, h3, hf⟩ := ob hf
  obtain ⟨σ1, v2, eσ1, hf⟩ := cb_el hf
  refine g_callV_i dX0_usedBy_58 (wX0_find _ eσ1) (okX0_find _ (by decide) (by decide)) (ckK_el h3) hc4 t_1485 t_973 s_X0_find rfl (Nat.le_trans (cat_le _) (Nat.le_of_ble_eq_true rfl)) rfl ?_
  refine g_istore (i := 4) (L' := [(4, .int v2), (0, rv x0), (1, rv x1), (2, .int x2), (3, .int x3)]) dX0_usedBy_61 (Nat.le_of_ble_eq_true rfl) rfl ?_
  refine g_iload_n (j := 3) dX0_usedBy_63 rfl rfl ?_
  refine g_iload (j := 0) dX0_usedBy_64 rfl ?_
  refine g_iconst (v := (-1)) dX0_usedBy_66 (by decide) ?_
  refine g_icmp_ne (tgt := 74) dX0_usedBy_67 (by decide) (fun c4 => ?_) (fun c4 => ?_)
  · rw [if_neg c4] at hf
    refine g_iconst (v := 1) dX0_usedBy_74 (by decide) ?_
    refine g_iload (j := 0) dX0_usedBy_75 rfl ?_
    refine g_ishl dX0_usedBy_77 ?_
    refine g_sub (L' := [(0, rv x0), (1, rv x1), (3, .int x3)]) [1, 2, 4] rfl ?_
    exact bX0_usedBy_78 hX1 hX2 hk4 hf
  · rw [if_pos c4] at hf
    refine g_iconst (v := 0) dX0_usedBy_70 (by decide) ?_
    refine g_goto (tgt := 78) dX0_usedBy_71 (by decide) ?_
    refine g_sub (L' := [(0, rv x0), (1, rv x1), (3, .int x3)]) [1, 2, 4] rfl ?_
    exact bX0_usedBy_78 hX1 hX2 hk4 hf

set_option maxRecDepth 100000 in
set_option maxHeartbeats 4000000 in
theorem bX0_usedBy_35 {X : Xt} {σf : St} {r : Int32} (hX1 : X.2.2.1 = σf) (hX2 : X.2.2.2 = .inl (some (.int r))) {k4 : St → Nat → Nat → Int32 → Int32 → Option (St × Int32)} (hk4 : ∀ (σ : St) (x0 : Nat) (x1 : Nat) (x2 : Int32) (x3 : Int32), k4 σ x0 x1 x2 x3 = some (σf, r) → G MtX0_usedBy X σ 4 [(0, rv x0), (1, rv x1), (2, .int x2), (3, .int x3)] []) {σ : St} {x0 : Nat} {x1 : Nat} {x2 : Int32} {x3 : Int32} (hf : fX0_usedBy_35 k4 σ x0 x1 x2 x3 = some (σf, r)) : G MtX0_usedBy X σ 35 [(0, rv x0), (1, rv x1), (2, .int x2), (3, .int x3)] [] := by
  unfold fX0_usedBy_35 at hf
  refine g_aload_n (j := 0) dX0_usedBy_35 rfl rfl ?_
  refine g_aload_n (j := 1) dX0_usedBy_36 rfl rfl ?_
  obtain ⟨v1, ev1, hf⟩ := ob hf
  refine g_getFN dX0_usedBy_37 ev1 t_1449 hin13 hc13 (by decide) rfl ?_
  refine g_iload_n (j := 3) dX0_usedBy_40 rfl rfl ?_
  obtain ⟨v2, ev2, hf⟩ := ob hf
  refine g_iald dX0_usedBy_41 ev2 ?_
  refine g_aload_n (j := 1) dX0_usedBy_42 rfl rfl ?_
  obtain ⟨v3, ev3, hf⟩ := ob hf
  refine g_getFN dX0_usedBy_43 ev3 t_1446 hin13 hc13 (by decide) rfl ?_
  refine g_iload_n (j := 3) dX0_usedBy_46 rfl rfl ?_
  obtain ⟨v4, ev4, hf⟩ := ob hf
  refine g_iald dX0_usedBy_47 ev4 ?_
  refine g_bipush (v := 9) dX0_usedBy_48 (by decide) ?_
  refine g_icmp_ne (tgt := 57) dX0_usedBy_50 (by decide) (fun c5 => ?_) (fun c5 => ?_)
  · rw [if_neg c5] at hf
    refine g_iconst (v := 0) dX0_usedBy_57 (by decide) ?_
    exact bX0_usedBy_58 hX1 hX2 hk4 hf
  · rw [if_pos c5] at hf
    refine g_iconst (v := 1) dX0_usedBy_53 (by decide) ?_
    refine g_goto (tgt := 58) dX0_usedBy_54 (by decide) ?_
    exact bX0_usedBy_58 hX1 hX2 hk4 hf

set_option maxRecDepth 100000 in
set_option maxHeartbeats 4000000 in
theorem bX0_usedBy_4 {X : Xt} {σf : St} {r : Int32} (hX1 : X.2.2.1 = σf) (hX2 : X.2.2.2 = .inl (some (.int r))) : ∀ (n : Nat) (σ : St) (x0 : Nat) (x1 : Nat) (x2 : Int32) (x3 : Int32), fX0_usedBy_4 n σ x0 x1 x2 x3 = some (σf, r) → G MtX0_usedBy X σ 4 [(0, rv x0), (1, rv x1), (2, .int x2), (3, .int x3)] [] := by
  intro n
  induction n with
  | zero => intro σ x0 x1 x2 x3 hf; cases hf
  | succ n ih =>
    intro σ x0 x1 x2 x3 hf
    rw [fX0_usedBy_4] at hf
    refine g_iload_n (j := 3) dX0_usedBy_4 rfl rfl ?_
    refine g_aload_n (j := 1) dX0_usedBy_5 rfl rfl ?_
    obtain ⟨v1, ev1, hf⟩ := ob hf
    refine g_getFN dX0_usedBy_6 ev1 t_1446 hin13 hc13 (by decide) rfl ?_
    obtain ⟨v2, ev2, hf⟩ := ob hf
    refine g_alen dX0_usedBy_9 ev2 ?_
    refine g_icmp_ge (tgt := 86) dX0_usedBy_10 (by decide) (fun c3 => ?_) (fun c3 => ?_)
    · rw [if_pos c3] at hf
      refine g_iload_n (j := 2) dX0_usedBy_86 rfl rfl ?_
      exact g_iret dX0_usedBy_87 rfl rfl hX2 hX1 hf
    · rw [if_neg c3] at hf
      refine g_aload_n (j := 1) dX0_usedBy_13 rfl rfl ?_
      obtain ⟨v4, ev4, hf⟩ := ob hf
      refine g_getFN dX0_usedBy_14 ev4 t_1446 hin13 hc13 (by decide) rfl ?_
      refine g_iload_n (j := 3) dX0_usedBy_17 rfl rfl ?_
      obtain ⟨v5, ev5, hf⟩ := ob hf
      refine g_iald dX0_usedBy_18 ev5 ?_
      refine g_bipush (v := 22) dX0_usedBy_19 (by decide) ?_
      refine g_icmp_eq (tgt := 35) dX0_usedBy_21 (by decide) (fun c6 => ?_) (fun c6 => ?_)
      · rw [if_pos c6] at hf
        exact bX0_usedBy_35 hX1 hX2 (fun σ x0 x1 x2 x3 hf => ih σ x0 x1 x2 x3 hf) hf
      · rw [if_neg c6] at hf
        refine g_aload_n (j := 1) dX0_usedBy_24 rfl rfl ?_
        obtain ⟨v7, ev7, hf⟩ := ob hf
        refine g_getFN dX0_usedBy_25 ev7 t_1446 hin13 hc13 (by decide) rfl ?_
        refine g_iload_n (j := 3) dX0_usedBy_28 rfl rfl ?_
        obtain ⟨v8, ev8, hf⟩ := ob hf
        refine g_iald dX0_usedBy_29 ev8 ?_
        refine g_bipush (v := 9) dX0_usedBy_30 (by decide) ?_
        refine g_icmp_ne (tgt := 80) dX0_usedBy_32 (by decide) (fun c9 => ?_) (fun c9 => ?_)
        · rw [if_neg c9] at hf
          exact bX0_usedBy_80 hX1 hX2 (fun σ x0 x1 x2 x3 hf => ih σ x0 x1 x2 x3 hf) hf
        · rw [if_pos c9] at hf
          exact bX0_usedBy_35 hX1 hX2 (fun σ x0 x1 x2 x3 hf => ih σ x0 x1 x2 x3 hf) hf

set_option maxRecDepth 100000 in
set_option maxHeartbeats 4000000 in
theorem wX0_usedBy (l : Launch) {σ σf : St} {x0 : Nat} {x1 : Nat} {r : Int32} (hf : fX0_usedBy σ x0 x1 = some (σf, r)) : Con MtX0_usedBy yX0_usedBy l σ [rv x0, rv x1] σf (some (.int r)) := by
  refine Con.of (by decide +kernel) rfl (fun h => absurd (show false = true from h) (by decide)) (by simp only [sl_n, sl_r, sl_i, sl_l]; exact Nat.le_of_ble_eq_true rfl) ?_
  rw [show lv_args 0 [rv x0, rv x1] = [(0, rv x0), (1, rv x1)] by simp only [la_n, la_r, la_i, la_l] <;> rfl]
  have hX1 : ((l, σ, σf, .inl (some (.int r))) : Xt).2.2.1 = σf := rfl
  have hX2 : ((l, σ, σf, .inl (some (.int r))) : Xt).2.2.2 = .inl (some (.int r)) := rfl
  unfold fX0_usedBy at hf
  refine g_iconst (v := 0) dX0_usedBy_0 (by decide) ?_
  refine g_istore_n (i := 2) (L' := [(2, .int 0), (0, rv x0), (1, rv x1)]) dX0_usedBy_1 rfl (Nat.le_of_ble_eq_true rfl) (by simp [rv_cat]) ?_
  refine g_iconst (v := 0) dX0_usedBy_2 (by decide) ?_
  refine g_istore_n (i := 3) (L' := [(3, .int 0), (2, .int 0), (0, rv x0), (1, rv x1)]) dX0_usedBy_3 rfl (Nat.le_of_ble_eq_true rfl) rfl ?_
  refine g_sub (L' := [(0, rv x0), (1, rv x1), (2, .int 0), (3, .int 0)]) [2, 3, 1, 0] rfl ?_
  exact bX0_usedBy_4 hX1 hX2 FU _ _ _ _ _ hf

theorem okX0_usedBy (M : Mt) (h1 : 2 + 1 ≤ M.2.2.2.2.1) (h2 : 8 + (5 + 11) + 108 ≤ M.2.2.2.2.2.1) : CallOk M MtX0_usedBy yX0_usedBy 1 := ⟨t_1513, h1, h2, ⟨by decide, by decide⟩, by decide +kernel, t_13⟩
abbrev MtX0_firstTowards : Mt := (cX0_firstTowards, 4, "ExactlySaid$Book", (Option.some Jvm.ClassFile.FieldType.int), 2, 106, false)
set_option maxRecDepth 100000 in
set_option maxHeartbeats 4000000 in
theorem bX0_firstTowards_35 {X : Xt} {σf : St} {r : Int32} (hX1 : X.2.2.1 = σf) (hX2 : X.2.2.2 = .inl (some (.int r))) {k2 : St → Nat → Int32 → Int32 → Int32 → Option (St × Int32)} (hk2 : ∀ (σ : St) (x0 : Nat) (x1 : Int32) (x2 : Int32) (x3 : Int32), k2 σ x0 x1 x2 x3 = some (σf, r) → G MtX0_firstTowards X σ 2 [(0, rv x0), (1, .int x1), (2, .int x2), (3, .int x3)] []) {σ : St} {x0 : Nat} {x1 : Int32} {x2 : Int32} {x3 : Int32} (hf : fX0_firstTowards_35 k2 σ x0 x1 x2 x3 = some (σf, r)) : G MtX0_firstTowards X σ 35 [(0, rv x0), (1, .int x1), (2, .int x2), (3, .int x3)] [] := by
  unfold fX0_firstTowards_35 at hf
  obtain ⟨v1, ev1, hf⟩ := nm_el hf
  refine g_iinc (L' := [(3, .int v1), (0, rv x0), (1, .int x1), (2, .int x2)]) (j := 3) (v := v1) dX0_firstTowards_35 rfl (by rw [ev1]; rfl) (Nat.le_of_ble_eq_true rfl) rfl ?_
  refine g_goto (tgt := 2) dX0_firstTowards_38 (by decide) ?_
  refine g_sub (L' := [(0, rv x0), (1, .int x1), (2, .int x2), (3, .int v1)]) [1, 2, 3, 0] rfl ?_
  exact hk2 _ _ _ _ _ hf

set_option maxRecDepth 100000 in
set_option maxHeartbeats 4000000 in
theorem bX0_firstTowards_2 {X : Xt} {σf : St} {r : Int32} (hX1 : X.2.2.1 = σf) (hX2 : X.2.2.2 = .inl (some (.int r))) : ∀ (n : Nat) (σ : St) (x0 : Nat) (x1 : Int32) (x2 : Int32) (x3 : Int32), fX0_firstTowards_2 n σ x0 x1 x2 x3 = some (σf, r) → G MtX0_firstTowards X σ 2 [(0, rv x0), (1, .int x1), (2, .int x2), (3, .int x3)] [] := by
  intro n
  induction n with
  | zero => intro σ x0 x1 x2 x3 hf; cases hf
  | succ n ih =>
    intro σ x0 x1 x2 x3 hf
    rw [fX0_firstTowards_2] at hf
    refine g_iload_n (j := 3) dX0_firstTowards_2 rfl rfl ?_
    refine g_aload_n (j := 0) dX0_firstTowards_3 rfl rfl ?_
    obtain ⟨v1, ev1, hf⟩ := ob hf
    refine g_getF dX0_firstTowards_4 ev1 t_339 hin4 hc4 (by decide) rfl ?_
    obtain ⟨v2, ev2, hf⟩ := ob hf
    refine g_alen dX0_firstTowards_7 ev2 ?_
    refine g_icmp_ge (tgt := 41) dX0_firstTowards_8 (by decide) (fun c3 => ?_) (fun c3 => ?_)
    · rw [if_pos c3] at hf
      refine g_iconst (v := (-1)) dX0_firstTowards_41 (by decide) ?_
      exact g_iret dX0_firstTowards_42 rfl rfl hX2 hX1 hf
    · rw [if_neg c3] at hf
      refine g_iload_n (j := 1) dX0_firstTowards_11 rfl rfl ?_
      refine g_iload_n (j := 3) dX0_firstTowards_12 rfl rfl ?_
      refine g_iushr dX0_firstTowards_13 rfl ?_
      refine g_iconst (v := 1) dX0_firstTowards_14 (by decide) ?_
      refine g_iand dX0_firstTowards_15 ?_
      refine g_if_eq (tgt := 35) dX0_firstTowards_16 (by decide) (fun c4 => ?_) (fun c4 => ?_)
      · rw [if_pos c4] at hf
        exact bX0_firstTowards_35 hX1 hX2 (fun σ x0 x1 x2 x3 hf => ih σ x0 x1 x2 x3 hf) hf
      · rw [if_neg c4] at hf
        refine g_iload_n (j := 3) dX0_firstTowards_19 rfl rfl ?_
        refine g_iload_n (j := 2) dX0_firstTowards_20 rfl rfl ?_
        refine g_icmp_eq (tgt := 33) dX0_firstTowards_21 (by decide) (fun c5 => ?_) (fun c5 => ?_)
        · rw [if_pos c5] at hf
          refine g_iload_n (j := 3) dX0_firstTowards_33 rfl rfl ?_
          exact g_iret dX0_firstTowards_34 rfl rfl hX2 hX1 hf
        · rw [if_neg c5] at hf
          refine g_aload_n (j := 0) dX0_firstTowards_24 rfl rfl ?_
          refine g_iload_n (j := 3) dX0_firstTowards_25 rfl rfl ?_
          refine g_iload_n (j := 2) dX0_firstTowards_26 rfl rfl ?_
          obtain ⟨_, h8, hf⟩ := ob hf
          obtain ⟨σ6, v7, eσ6, hf⟩ := cb_el hf
          refine g_callV_i dX0_firstTowards_27 (wX0_isUsing _ eσ6) (okX0_isUsing _ (by decide) (by decide)) (ckK_el h8) hc4 t_987 t_977 s_X0_isUsing rfl (Nat.le_trans (cat_le _) (Nat.le_of_ble_eq_true rfl)) rfl ?_
          refine g_if_eq (tgt := 35) dX0_firstTowards_30 (by decide) (fun c9 => ?_) (fun c9 => ?_)
          · rw [if_pos c9] at hf
            exact bX0_firstTowards_35 hX1 hX2 (fun σ x0 x1 x2 x3 hf => ih σ x0 x1 x2 x3 hf) hf
          · rw [if_neg c9] at hf
            refine g_iload_n (j := 3) dX0_firstTowards_33 rfl rfl ?_
            exact g_iret dX0_firstTowards_34 rfl rfl hX2 hX1 hf

set_option maxRecDepth 100000 in
set_option maxHeartbeats 4000000 in
theorem wX0_firstTowards (l : Launch) {σ σf : St} {x0 : Nat} {x1 : Int32} {x2 : Int32} {r : Int32} (hf : fX0_firstTowards σ x0 x1 x2 = some (σf, r)) : Con MtX0_firstTowards yX0_firstTowards l σ [rv x0, .int x1, .int x2] σf (some (.int r)) := by
  refine Con.of (by decide +kernel) rfl (fun h => absurd (show false = true from h) (by decide)) (by simp only [sl_n, sl_r, sl_i, sl_l]; exact Nat.le_of_ble_eq_true rfl) ?_
  rw [show lv_args 0 [rv x0, .int x1, .int x2] = [(0, rv x0), (1, .int x1), (2, .int x2)] by simp only [la_n, la_r, la_i, la_l] <;> rfl]
  have hX1 : ((l, σ, σf, .inl (some (.int r))) : Xt).2.2.1 = σf := rfl
  have hX2 : ((l, σ, σf, .inl (some (.int r))) : Xt).2.2.2 = .inl (some (.int r)) := rfl
  unfold fX0_firstTowards at hf
  refine g_iconst (v := 0) dX0_firstTowards_0 (by decide) ?_
  refine g_istore_n (i := 3) (L' := [(3, .int 0), (0, rv x0), (1, .int x1), (2, .int x2)]) dX0_firstTowards_1 rfl (Nat.le_of_ble_eq_true rfl) rfl ?_
  refine g_sub (L' := [(0, rv x0), (1, .int x1), (2, .int x2), (3, .int 0)]) [1, 2, 3, 0] rfl ?_
  exact bX0_firstTowards_2 hX1 hX2 FU _ _ _ _ _ hf

theorem okX0_firstTowards (M : Mt) (h1 : 2 + 1 ≤ M.2.2.2.2.1) (h2 : 8 + (4 + 11) + 106 ≤ M.2.2.2.2.2.1) : CallOk M MtX0_firstTowards yX0_firstTowards 2 := ⟨t_1521, h1, h2, ⟨by decide, by decide⟩, by decide +kernel, t_13⟩
abbrev MtX0_leadsTo : Mt := (cX0_leadsTo, 3, "ExactlySaid$Book", (Option.some Jvm.ClassFile.FieldType.boolean), 3, 129, false)
set_option maxRecDepth 100000 in
set_option maxHeartbeats 4000000 in
theorem wX0_leadsTo (l : Launch) {σ σf : St} {x0 : Nat} {x1 : Int32} {x2 : Int32} {r : Int32} (hf : fX0_leadsTo σ x0 x1 x2 = some (σf, r)) : Con MtX0_leadsTo yX0_leadsTo l σ [rv x0, .int x1, .int x2] σf (some (.int r)) := by
  refine Con.of (by decide +kernel) rfl (fun h => absurd (show false = true from h) (by decide)) (by simp only [sl_n, sl_r, sl_i, sl_l]; exact Nat.le_of_ble_eq_true rfl) ?_
  rw [show lv_args 0 [rv x0, .int x1, .int x2] = [(0, rv x0), (1, .int x1), (2, .int x2)] by simp only [la_n, la_r, la_i, la_l] <;> rfl]
  have hX1 : ((l, σ, σf, .inl (some (.int r))) : Xt).2.2.1 = σf := rfl
  have hX2 : ((l, σ, σf, .inl (some (.int r))) : Xt).2.2.2 = .inl (some (.int r)) := rfl
  unfold fX0_leadsTo at hf
  refine g_aload_n (j := 0) dX0_leadsTo_0 rfl rfl ?_
  refine g_iload_n (j := 1) dX0_leadsTo_1 rfl rfl ?_
  refine g_iload_n (j := 2) dX0_leadsTo_2 rfl rfl ?_
  obtain ⟨_, h3, hf⟩ := ob hf
  obtain ⟨σ1, v2, eσ1, hf⟩ := cb_el hf
  refine g_callV_i dX0_leadsTo_3 (wX0_firstTowards _ eσ1) (okX0_firstTowards _ (by decide) (by decide)) (ckK_el h3) hc4 t_1518 t_1520 s_X0_firstTowards rfl (Nat.le_trans (cat_le _) (Nat.le_of_ble_eq_true rfl)) rfl ?_
  refine g_iconst (v := (-1)) dX0_leadsTo_6 (by decide) ?_
  refine g_icmp_eq (tgt := 14) dX0_leadsTo_7 (by decide) (fun c4 => ?_) (fun c4 => ?_)
  · rw [if_pos c4] at hf
    refine g_iconst (v := 0) dX0_leadsTo_14 (by decide) ?_
    exact g_iret dX0_leadsTo_15 rfl (by decide) hX2 hX1 hf
  · rw [if_neg c4] at hf
    refine g_iconst (v := 1) dX0_leadsTo_10 (by decide) ?_
    refine g_goto (tgt := 15) dX0_leadsTo_11 (by decide) ?_
    exact g_iret dX0_leadsTo_15 rfl (by decide) hX2 hX1 hf

theorem okX0_leadsTo (M : Mt) (h1 : 3 + 1 ≤ M.2.2.2.2.1) (h2 : 8 + (3 + 11) + 129 ≤ M.2.2.2.2.2.1) : CallOk M MtX0_leadsTo yX0_leadsTo 2 := ⟨t_1517, h1, h2, ⟨by decide, by decide⟩, by decide +kernel, t_13⟩
abbrev MtX0_signedWordOf : Mt := (cX0_signedWordOf, 3, "ExactlySaid$Book", (Option.some Jvm.ClassFile.FieldType.int), 2, 105, false)
set_option maxRecDepth 100000 in
set_option maxHeartbeats 4000000 in
theorem wX0_signedWordOf (l : Launch) {σ σf : St} {x0 : Nat} {x1 : Int32} {r : Int32} (hf : fX0_signedWordOf σ x0 x1 = some (σf, r)) : Con MtX0_signedWordOf yX0_signedWordOf l σ [rv x0, .int x1] σf (some (.int r)) := by
  refine Con.of (by decide +kernel) rfl (fun h => absurd (show false = true from h) (by decide)) (by simp only [sl_n, sl_r, sl_i, sl_l]; exact Nat.le_of_ble_eq_true rfl) ?_
  rw [show lv_args 0 [rv x0, .int x1] = [(0, rv x0), (1, .int x1)] by simp only [la_n, la_r, la_i, la_l] <;> rfl]
  have hX1 : ((l, σ, σf, .inl (some (.int r))) : Xt).2.2.1 = σf := rfl
  have hX2 : ((l, σ, σf, .inl (some (.int r))) : Xt).2.2.2 = .inl (some (.int r)) := rfl
  unfold fX0_signedWordOf at hf
  refine g_aload_n (j := 0) dX0_signedWordOf_0 rfl rfl ?_
  refine g_iload_n (j := 1) dX0_signedWordOf_1 rfl rfl ?_
  obtain ⟨_, h3, hf⟩ := ob hf
  obtain ⟨σ1, a2, eσ1, hf⟩ := cb_el hf
  refine g_callV_q dX0_signedWordOf_2 (wX0_toldAt _ eσ1) (okX0_toldAt _ (by decide) (by decide)) (ckK_el h3) hc4 t_1490 t_1134 s_X0_toldAt rfl (Nat.le_trans (cat_le _) (Nat.le_of_ble_eq_true rfl)) rfl ?_
  refine g_astore_n (i := 2) (L' := [(2, rv a2), (0, rv x0), (1, .int x1)]) dX0_signedWordOf_5 rfl (Nat.le_of_ble_eq_true rfl) rfl ?_
  refine g_aload_n (j := 0) dX0_signedWordOf_6 rfl rfl ?_
  refine g_ifnonnull (tgt := 12) dX0_signedWordOf_7 (by decide) (fun c4 => ?_) (fun c4 => ?_)
  · rw [if_neg c4] at hf
    refine g_aload_n (j := 0) dX0_signedWordOf_12 rfl rfl ?_
    obtain ⟨v5, ev5, hf⟩ := ob hf
    refine g_getIN dX0_signedWordOf_13 ev5 t_1562 hin14 hc14 (by decide) rfl ?_
    refine g_if_le (tgt := 27) dX0_signedWordOf_16 (by decide) (fun c6 => ?_) (fun c6 => ?_)
    · rw [if_pos c6] at hf
      refine g_aload_n (j := 0) dX0_signedWordOf_27 rfl rfl ?_
      obtain ⟨v7, ev7, hf⟩ := ob hf
      refine g_getIN dX0_signedWordOf_28 ev7 t_1559 hin14 hc14 (by decide) rfl ?_
      exact g_iret dX0_signedWordOf_31 rfl rfl hX2 hX1 hf
    · rw [if_neg c6] at hf
      refine g_aload_n (j := 0) dX0_signedWordOf_19 rfl rfl ?_
      obtain ⟨v8, ev8, hf⟩ := ob hf
      refine g_getIN dX0_signedWordOf_20 ev8 t_1559 hin14 hc14 (by decide) rfl ?_
      refine g_ineg dX0_signedWordOf_23 ?_
      refine g_goto (tgt := 31) dX0_signedWordOf_24 (by decide) ?_
      exact g_iret dX0_signedWordOf_31 rfl rfl hX2 hX1 hf
  · rw [if_pos c4] at hf
    refine g_iconst (v := 0) dX0_signedWordOf_10 (by decide) ?_
    exact g_iret dX0_signedWordOf_11 rfl rfl hX2 hX1 hf

theorem okX0_signedWordOf (M : Mt) (h1 : 2 + 1 ≤ M.2.2.2.2.1) (h2 : 8 + (3 + 11) + 105 ≤ M.2.2.2.2.2.1) : CallOk M MtX0_signedWordOf yX0_signedWordOf 1 := ⟨t_1529, h1, h2, ⟨by decide, by decide⟩, by decide +kernel, t_13⟩
abbrev MtX0_directFrom : Mt := (cX0_directFrom, 2, "ExactlySaid$Book", (Option.some Jvm.ClassFile.FieldType.int), 1, 84, false)
set_option maxRecDepth 100000 in
set_option maxHeartbeats 4000000 in
theorem wX0_directFrom (l : Launch) {σ σf : St} {x0 : Nat} {x1 : Int32} {r : Int32} (hf : fX0_directFrom σ x0 x1 = some (σf, r)) : Con MtX0_directFrom yX0_directFrom l σ [rv x0, .int x1] σf (some (.int r)) := by
  refine Con.of (by decide +kernel) rfl (fun h => absurd (show false = true from h) (by decide)) (by simp only [sl_n, sl_r, sl_i, sl_l]; exact Nat.le_of_ble_eq_true rfl) ?_
  rw [show lv_args 0 [rv x0, .int x1] = [(0, rv x0), (1, .int x1)] by simp only [la_n, la_r, la_i, la_l] <;> rfl]
  have hX1 : ((l, σ, σf, .inl (some (.int r))) : Xt).2.2.1 = σf := rfl
  have hX2 : ((l, σ, σf, .inl (some (.int r))) : Xt).2.2.2 = .inl (some (.int r)) := rfl
  unfold fX0_directFrom at hf
  refine g_iload_n (j := 1) dX0_directFrom_0 rfl rfl ?_
  refine g_if_lt (tgt := 22) dX0_directFrom_1 (by decide) (fun c1 => ?_) (fun c1 => ?_)
  · rw [if_pos c1] at hf
    refine g_iconst (v := 0) dX0_directFrom_22 (by decide) ?_
    exact g_iret dX0_directFrom_23 rfl rfl hX2 hX1 hf
  · rw [if_neg c1] at hf
    refine g_iload_n (j := 1) dX0_directFrom_4 rfl rfl ?_
    refine g_aload_n (j := 0) dX0_directFrom_5 rfl rfl ?_
    obtain ⟨v2, ev2, hf⟩ := ob hf
    refine g_getF dX0_directFrom_6 ev2 t_338 hin4 hc4 (by decide) rfl ?_
    obtain ⟨v3, ev3, hf⟩ := ob hf
    refine g_alen dX0_directFrom_9 ev3 ?_
    refine g_icmp_ge (tgt := 22) dX0_directFrom_10 (by decide) (fun c4 => ?_) (fun c4 => ?_)
    · rw [if_pos c4] at hf
      refine g_iconst (v := 0) dX0_directFrom_22 (by decide) ?_
      exact g_iret dX0_directFrom_23 rfl rfl hX2 hX1 hf
    · rw [if_neg c4] at hf
      refine g_aload_n (j := 0) dX0_directFrom_13 rfl rfl ?_
      obtain ⟨v5, ev5, hf⟩ := ob hf
      refine g_getF dX0_directFrom_14 ev5 t_338 hin4 hc4 (by decide) rfl ?_
      refine g_iload_n (j := 1) dX0_directFrom_17 rfl rfl ?_
      obtain ⟨v6, ev6, hf⟩ := ob hf
      refine g_iald dX0_directFrom_18 ev6 ?_
      refine g_goto (tgt := 23) dX0_directFrom_19 (by decide) ?_
      exact g_iret dX0_directFrom_23 rfl rfl hX2 hX1 hf

theorem okX0_directFrom (M : Mt) (h1 : 1 + 1 ≤ M.2.2.2.2.1) (h2 : 8 + (2 + 11) + 84 ≤ M.2.2.2.2.2.1) : CallOk M MtX0_directFrom yX0_directFrom 1 := ⟨t_1534, h1, h2, ⟨by decide, by decide⟩, by decide +kernel, t_13⟩
abbrev MtX11_traceRing : Mt := (cX11_traceRing, 6, "ExactlySaid", none, 3, 132, false)
set_option maxRecDepth 100000 in
set_option maxHeartbeats 4000000 in
theorem bX11_traceRing_18 {X : Xt} {σf : St} {r : Unit} (hX1 : X.2.2.1 = σf) (hX2 : X.2.2.2 = .inl (none)) : ∀ (n : Nat) (σ : St) (x0 : Nat) (x1 : Nat) (x2 : Int32) (x3 : Int32) (x4 : Int32) (x5 : Int32), fX11_traceRing_18 n σ x0 x1 x2 x3 x4 x5 = some (σf, r) → G MtX11_traceRing X σ 18 [(0, rv x0), (1, rv x1), (2, .int x2), (3, .int x3), (4, .int x4), (5, .int x5)] [] := by
  intro n
  induction n with
  | zero => intro σ x0 x1 x2 x3 x4 x5 hf; cases hf
  | succ n ih =>
    intro σ x0 x1 x2 x3 x4 x5 hf
    rw [fX11_traceRing_18] at hf
    refine g_iload (j := 5) dX11_traceRing_18 rfl ?_
    refine g_aload_n (j := 0) dX11_traceRing_20 rfl rfl ?_
    obtain ⟨v1, ev1, hf⟩ := ob hf
    refine g_getF dX11_traceRing_21 ev1 t_381 hin15 hc15 (by decide) rfl ?_
    obtain ⟨v2, ev2, hf⟩ := ob hf
    refine g_alen dX11_traceRing_24 ev2 ?_
    refine g_icmp_ge (tgt := 87) dX11_traceRing_25 (by decide) (fun c3 => ?_) (fun c3 => ?_)
    · rw [if_pos c3] at hf
      exact g_vret dX11_traceRing_87 rfl hX2 hX1 hf
    · rw [if_neg c3] at hf
      refine g_aload_n (j := 0) dX11_traceRing_28 rfl rfl ?_
      obtain ⟨v4, ev4, hf⟩ := ob hf
      refine g_getF dX11_traceRing_29 ev4 t_381 hin15 hc15 (by decide) rfl ?_
      refine g_aload_n (j := 0) dX11_traceRing_32 rfl rfl ?_
      obtain ⟨v5, ev5, hf⟩ := ob hf
      refine g_getI dX11_traceRing_33 ev5 t_382 hin15 hc15 (by decide) rfl ?_
      refine g_aload_n (j := 1) dX11_traceRing_36 rfl rfl ?_
      refine g_iload (j := 4) dX11_traceRing_37 rfl ?_
      obtain ⟨_, h8, hf⟩ := ob hf
      obtain ⟨σ6, v7, eσ6, hf⟩ := cb_el hf
      refine g_callVN_i dX11_traceRing_39 (wX0_signedWordOf _ eσ6) (okX0_signedWordOf _ (by decide) (by decide)) (ckK_el h8) hc4 t_1526 t_1528 s_X0_signedWordOf rfl (Nat.le_trans (cat_le _) (Nat.le_of_ble_eq_true rfl)) rfl ?_
      obtain ⟨σ9, eσ9, hf⟩ := ob hf
      refine g_iast dX11_traceRing_42 eσ9 ?_
      refine g_aload_n (j := 0) dX11_traceRing_43 rfl rfl ?_
      refine g_dup dX11_traceRing_44 (rv_cat _) ?_
      obtain ⟨v10, ev10, hf⟩ := ob hf
      refine g_getI dX11_traceRing_45 ev10 t_382 hin15 hc15 (by decide) rfl ?_
      refine g_iconst (v := 1) dX11_traceRing_48 (by decide) ?_
      refine g_iadd dX11_traceRing_49 ?_
      obtain ⟨σ11, eσ11, hf⟩ := ob hf
      refine g_putI dX11_traceRing_50 eσ11 (Or.inl t_382) hin15 hc15 (by decide) hty15 hnm15 (Or.inl rfl) rfl rfl rfl ?_
      refine g_aload_n (j := 1) dX11_traceRing_53 rfl rfl ?_
      refine g_iload_n (j := 3) dX11_traceRing_54 rfl rfl ?_
      refine g_iload_n (j := 2) dX11_traceRing_55 rfl rfl ?_
      obtain ⟨_, h14, hf⟩ := ob hf
      obtain ⟨σ12, v13, eσ12, hf⟩ := cb_el hf
      refine g_callVN_i dX11_traceRing_56 (wX0_firstTowards _ eσ12) (okX0_firstTowards _ (by decide) (by decide)) (ckK_el h14) hc4 t_1530 t_1520 s_X0_firstTowards rfl (Nat.le_trans (cat_le _) (Nat.le_of_ble_eq_true rfl)) rfl ?_
      refine g_istore (i := 4) (L' := [(4, .int v13), (0, rv x0), (1, rv x1), (2, .int x2), (3, .int x3), (5, .int x5)]) dX11_traceRing_59 (Nat.le_of_ble_eq_true rfl) rfl ?_
      refine g_iload (j := 0) dX11_traceRing_61 rfl ?_
      refine g_iload_n (j := 3) dX11_traceRing_63 rfl rfl ?_
      refine g_icmp_eq (tgt := 73) dX11_traceRing_64 (by decide) (fun c15 => ?_) (fun c15 => ?_)
      · rw [if_pos c15] at hf
        exact g_vret dX11_traceRing_73 rfl hX2 hX1 hf
      · rw [if_neg c15] at hf
        refine g_iload (j := 0) dX11_traceRing_67 rfl ?_
        refine g_iconst (v := (-1)) dX11_traceRing_69 (by decide) ?_
        refine g_icmp_ne (tgt := 74) dX11_traceRing_70 (by decide) (fun c16 => ?_) (fun c16 => ?_)
        · rw [if_neg c16] at hf
          refine g_aload_n (j := 2) dX11_traceRing_74 rfl rfl ?_
          refine g_iload (j := 0) dX11_traceRing_75 rfl ?_
          obtain ⟨_, h19, hf⟩ := ob hf
          obtain ⟨σ17, v18, eσ17, hf⟩ := cb_el hf
          refine g_callVN_i dX11_traceRing_77 (wX0_directFrom _ eσ17) (okX0_directFrom _ (by decide) (by decide)) (ckK_el h19) hc4 t_1531 t_1533 s_X0_directFrom rfl (Nat.le_trans (cat_le _) (Nat.le_of_ble_eq_true rfl)) rfl ?_
          refine g_istore_n (i := 3) (L' := [(3, .int v18), (4, .int v13), (0, rv x0), (1, rv x1), (2, .int x2), (5, .int x5)]) dX11_traceRing_80 rfl (Nat.le_of_ble_eq_true rfl) rfl ?_
          obtain ⟨v20, ev20, hf⟩ := nm_el hf
          refine g_iinc (L' := [(5, .int v20), (3, .int v18), (4, .int v13), (0, rv x0), (1, rv x1), (2, .int x2)]) (j := 5) (v := v20) dX11_traceRing_81 rfl (by rw [ev20]; rfl) (Nat.le_of_ble_eq_true rfl) rfl ?_
          refine g_goto (tgt := 18) dX11_traceRing_84 (by decide) ?_
          refine g_sub (L' := [(0, rv x0), (1, rv x1), (2, .int x2), (3, .int v18), (4, .int v13), (5, .int v20)]) [3, 4, 5, 1, 2, 0] rfl ?_
          exact ih _ _ _ _ _ _ _ hf
        · rw [if_pos c16] at hf
          exact g_vret dX11_traceRing_73 rfl hX2 hX1 hf

set_option maxRecDepth 100000 in
set_option maxHeartbeats 4000000 in
theorem wX11_traceRing (l : Launch) {σ σf : St} {x0 : Nat} {x1 : Nat} {x2 : Int32} {r : Unit} (hf : fX11_traceRing σ x0 x1 x2 = some (σf, r)) : Con MtX11_traceRing yX11_traceRing l σ [rv x0, rv x1, .int x2] σf (none) := by
  refine Con.of (by decide +kernel) rfl (fun h => absurd (show false = true from h) (by decide)) (by simp only [sl_n, sl_r, sl_i, sl_l]; exact Nat.le_of_ble_eq_true rfl) ?_
  rw [show lv_args 0 [rv x0, rv x1, .int x2] = [(0, rv x0), (1, rv x1), (2, .int x2)] by simp only [la_n, la_r, la_i, la_l] <;> rfl]
  have hX1 : ((l, σ, σf, .inl (none)) : Xt).2.2.1 = σf := rfl
  have hX2 : ((l, σ, σf, .inl (none)) : Xt).2.2.2 = .inl (none) := rfl
  unfold fX11_traceRing at hf
  refine g_aload_n (j := 1) dX11_traceRing_0 rfl rfl ?_
  refine g_aload_n (j := 0) dX11_traceRing_1 rfl rfl ?_
  obtain ⟨v1, ev1, hf⟩ := ob hf
  refine g_getF dX11_traceRing_2 ev1 t_392 hin15 hc15 (by decide) rfl ?_
  obtain ⟨v2, ev2, hf⟩ := ob hf
  refine g_getFN dX11_traceRing_5 ev2 t_241 hin8 hc8 (by decide) rfl ?_
  obtain ⟨_, h5, hf⟩ := ob hf
  obtain ⟨σ3, v4, eσ3, hf⟩ := cb_el hf
  refine g_callVN_i dX11_traceRing_8 (wX0_usedBy _ eσ3) (okX0_usedBy _ (by decide) (by decide)) (ckK_el h5) hc4 t_1510 t_1512 s_X0_usedBy rfl (Nat.le_trans (cat_le _) (Nat.le_of_ble_eq_true rfl)) rfl ?_
  refine g_istore_n (i := 3) (L' := [(3, .int v4), (0, rv x0), (1, rv x1), (2, .int x2)]) dX11_traceRing_11 rfl (Nat.le_of_ble_eq_true rfl) rfl ?_
  refine g_iload_n (j := 3) dX11_traceRing_12 rfl rfl ?_
  refine g_istore (i := 4) (L' := [(4, .int x2), (3, .int v4), (0, rv x0), (1, rv x1), (2, .int x2)]) dX11_traceRing_13 (Nat.le_of_ble_eq_true rfl) rfl ?_
  refine g_iconst (v := 0) dX11_traceRing_15 (by decide) ?_
  refine g_istore (i := 5) (L' := [(5, .int 0), (4, .int x2), (3, .int v4), (0, rv x0), (1, rv x1), (2, .int x2)]) dX11_traceRing_16 (Nat.le_of_ble_eq_true rfl) rfl ?_
  refine g_sub (L' := [(0, rv x0), (1, rv x1), (2, .int x2), (3, .int v4), (4, .int x2), (5, .int 0)]) [3, 4, 5, 2, 1, 0] rfl ?_
  exact bX11_traceRing_18 hX1 hX2 FU _ _ _ _ _ _ _ hf

theorem okX11_traceRing (M : Mt) (h1 : 3 + 1 ≤ M.2.2.2.2.1) (h2 : 8 + (6 + 11) + 132 ≤ M.2.2.2.2.2.1) : CallOk M MtX11_traceRing yX11_traceRing 2 := ⟨t_1525, h1, h2, ⟨by decide, by decide⟩, by decide +kernel, t_1⟩
abbrev MtX11_isRefusedAhead : Mt := (cX11_isRefusedAhead, 4, "ExactlySaid", (Option.some Jvm.ClassFile.FieldType.boolean), 5, 174, false)
set_option maxRecDepth 100000 in
set_option maxHeartbeats 4000000 in
theorem bX11_isRefusedAhead_125 {X : Xt} {σf : St} {r : Int32} (hX1 : X.2.2.1 = σf) (hX2 : X.2.2.2 = .inl (some (.int r))) {σ : St} {x0 : Nat} {x1 : Nat} {x3 : Int32} (hf : fX11_isRefusedAhead_125 σ x0 x1 x3 = some (σf, r)) : G MtX11_isRefusedAhead X σ 125 [(0, rv x0), (1, rv x1), (3, .int x3)] [] := by
  unfold fX11_isRefusedAhead_125 at hf
  refine g_iload_n (j := 2) dX11_isRefusedAhead_125 rfl rfl ?_
  refine g_iconst (v := (-1)) dX11_isRefusedAhead_126 (by decide) ?_
  refine g_icmp_eq (tgt := 170) dX11_isRefusedAhead_127 (by decide) (fun c1 => ?_) (fun c1 => ?_)
  · rw [if_pos c1] at hf
    refine g_iconst (v := 0) dX11_isRefusedAhead_170 (by decide) ?_
    exact g_iret dX11_isRefusedAhead_171 rfl (by decide) hX2 hX1 hf
  · rw [if_neg c1] at hf
    refine g_aload_n (j := 1) dX11_isRefusedAhead_130 rfl rfl ?_
    refine g_aload_n (j := 1) dX11_isRefusedAhead_131 rfl rfl ?_
    refine g_aload_n (j := 0) dX11_isRefusedAhead_132 rfl rfl ?_
    obtain ⟨v2, ev2, hf⟩ := ob hf
    refine g_getF dX11_isRefusedAhead_133 ev2 t_392 hin15 hc15 (by decide) rfl ?_
    obtain ⟨v3, ev3, hf⟩ := ob hf
    refine g_getFN dX11_isRefusedAhead_136 ev3 t_241 hin8 hc8 (by decide) rfl ?_
    obtain ⟨_, h6, hf⟩ := ob hf
    obtain ⟨σ4, v5, eσ4, hf⟩ := cb_el hf
    refine g_callVN_i dX11_isRefusedAhead_139 (wX0_usedBy _ eσ4) (okX0_usedBy _ (by decide) (by decide)) (ckK_el h6) hc4 t_1510 t_1512 s_X0_usedBy rfl (Nat.le_trans (cat_le _) (Nat.le_of_ble_eq_true rfl)) rfl ?_
    refine g_iload_n (j := 2) dX11_isRefusedAhead_142 rfl rfl ?_
    obtain ⟨_, h9, hf⟩ := ob hf
    obtain ⟨σ7, v8, eσ7, hf⟩ := cb_el hf
    refine g_callVN_i dX11_isRefusedAhead_143 (wX0_leadsTo _ eσ7) (okX0_leadsTo _ (by decide) (by decide)) (ckK_el h9) hc4 t_1514 t_1516 s_X0_leadsTo rfl (Nat.le_trans (cat_le _) (Nat.le_of_ble_eq_true rfl)) rfl ?_
    refine g_if_eq (tgt := 170) dX11_isRefusedAhead_146 (by decide) (fun c10 => ?_) (fun c10 => ?_)
    · rw [if_pos c10] at hf
      refine g_iconst (v := 0) dX11_isRefusedAhead_170 (by decide) ?_
      exact g_iret dX11_isRefusedAhead_171 rfl (by decide) hX2 hX1 hf
    · rw [if_neg c10] at hf
      refine g_aload_n (j := 0) dX11_isRefusedAhead_149 rfl rfl ?_
      refine g_iconst (v := 4) dX11_isRefusedAhead_150 (by decide) ?_
      refine g_aload_n (j := 0) dX11_isRefusedAhead_151 rfl rfl ?_
      obtain ⟨v11, ev11, hf⟩ := ob hf
      refine g_getF dX11_isRefusedAhead_152 ev11 t_392 hin15 hc15 (by decide) rfl ?_
      obtain ⟨v12, ev12, hf⟩ := ob hf
      refine g_getIN dX11_isRefusedAhead_155 ev12 t_235 hin8 hc8 (by decide) rfl ?_
      obtain ⟨_, h15, hf⟩ := ob hf
      obtain ⟨σ13, v14, eσ13, hf⟩ := cb_el hf
      refine g_callV_v dX11_isRefusedAhead_158 (wX11_refuse _ eσ13) (okX11_refuse _ (by decide) (by decide)) (ckK_el h15) hc15 t_1492 t_1494 s_X11_refuse rfl (Nat.le_trans (cat_le _) (Nat.le_of_ble_eq_true rfl)) rfl ?_
      refine g_aload_n (j := 0) dX11_isRefusedAhead_161 rfl rfl ?_
      refine g_aload_n (j := 1) dX11_isRefusedAhead_162 rfl rfl ?_
      refine g_iload_n (j := 2) dX11_isRefusedAhead_163 rfl rfl ?_
      obtain ⟨_, h18, hf⟩ := ob hf
      obtain ⟨σ16, v17, eσ16, hf⟩ := cb_el hf
      refine g_callV_v dX11_isRefusedAhead_164 (wX11_traceRing _ eσ16) (okX11_traceRing _ (by decide) (by decide)) (ckK_el h18) hc15 t_1522 t_1524 s_X11_traceRing rfl (Nat.le_trans (cat_le _) (Nat.le_of_ble_eq_true rfl)) rfl ?_
      refine g_goto (tgt := 172) dX11_isRefusedAhead_167 (by decide) ?_
      refine g_iconst (v := 1) dX11_isRefusedAhead_172 (by decide) ?_
      exact g_iret dX11_isRefusedAhead_173 rfl (by decide) hX2 hX1 hf

set_option maxRecDepth 100000 in
set_option maxHeartbeats 4000000 in
theorem bX11_isRefusedAhead_69 {X : Xt} {σf : St} {r : Int32} (hX1 : X.2.2.1 = σf) (hX2 : X.2.2.2 = .inl (some (.int r))) {σ : St} {x0 : Nat} {x1 : Nat} {y0 : Nat} {y1 : Int32} {y2 : Int32} (hf : fX11_isRefusedAhead_69 σ x0 x1 y0 y1 y2 = some (σf, r)) : G MtX11_isRefusedAhead X σ 69 [(0, rv x0), (1, rv x1)] [.int y2, .int y1, rv y0] := by
  unfold fX11_isRefusedAhead_69 at hf
  obtain ⟨_, h3, hf⟩ := ob hf
  obtain ⟨σ1, v2, eσ1, hf⟩ := cb_el hf
  refine g_callVN_i dX11_isRefusedAhead_69 (wX0_find _ eσ1) (okX0_find _ (by decide) (by decide)) (ckK_el h3) hc4 t_971 t_973 s_X0_find rfl (Nat.le_trans (cat_le _) (Nat.le_of_ble_eq_true rfl)) rfl ?_
  refine g_istore_n (i := 3) (L' := [(3, .int v2), (0, rv x0), (1, rv x1)]) dX11_isRefusedAhead_72 rfl (Nat.le_of_ble_eq_true rfl) rfl ?_
  refine g_aload_n (j := 1) dX11_isRefusedAhead_73 rfl rfl ?_
  refine g_aload_n (j := 2) dX11_isRefusedAhead_74 rfl rfl ?_
  refine g_iload_n (j := 0) dX11_isRefusedAhead_75 rfl rfl ?_
  obtain ⟨_, h6, hf⟩ := ob hf
  obtain ⟨σ4, v5, eσ4, hf⟩ := cb_el hf
  refine g_callV_i dX11_isRefusedAhead_76 (wX11_isTaken _ eσ4) (okX11_isTaken _ (by decide) (by decide)) (ckK_el h6) hc15 t_1496 t_1498 s_X11_isTaken rfl (Nat.le_trans (cat_le _) (Nat.le_of_ble_eq_true rfl)) rfl ?_
  refine g_if_eq (tgt := 97) dX11_isRefusedAhead_79 (by decide) (fun c7 => ?_) (fun c7 => ?_)
  · rw [if_pos c7] at hf
    refine g_iload_n (j := 0) dX11_isRefusedAhead_97 rfl rfl ?_
    refine g_iconst (v := (-1)) dX11_isRefusedAhead_98 (by decide) ?_
    refine g_icmp_ne (tgt := 125) dX11_isRefusedAhead_99 (by decide) (fun c8 => ?_) (fun c8 => ?_)
    · rw [if_neg c8] at hf
      refine g_sub (L' := [(0, rv x0), (1, rv x1), (3, .int v2)]) [1, 2, 0] rfl ?_
      exact bX11_isRefusedAhead_125 hX1 hX2 hf
    · rw [if_pos c8] at hf
      refine g_aload_n (j := 1) dX11_isRefusedAhead_102 rfl rfl ?_
      refine g_aload_n (j := 2) dX11_isRefusedAhead_103 rfl rfl ?_
      obtain ⟨_, h11, hf⟩ := ob hf
      obtain ⟨σ9, v10, eσ9, hf⟩ := cb_el hf
      refine g_callV_i dX11_isRefusedAhead_104 (wX11_isFull _ eσ9) (okX11_isFull _ (by decide) (by decide)) (ckK_el h11) hc15 t_1506 t_1508 s_X11_isFull rfl (Nat.le_trans (cat_le _) (Nat.le_of_ble_eq_true rfl)) rfl ?_
      refine g_if_eq (tgt := 125) dX11_isRefusedAhead_107 (by decide) (fun c12 => ?_) (fun c12 => ?_)
      · rw [if_pos c12] at hf
        refine g_sub (L' := [(0, rv x0), (1, rv x1), (3, .int v2)]) [1, 2, 0] rfl ?_
        exact bX11_isRefusedAhead_125 hX1 hX2 hf
      · rw [if_neg c12] at hf
        refine g_aload_n (j := 1) dX11_isRefusedAhead_110 rfl rfl ?_
        refine g_iconst (v := 3) dX11_isRefusedAhead_111 (by decide) ?_
        refine g_aload_n (j := 1) dX11_isRefusedAhead_112 rfl rfl ?_
        obtain ⟨v13, ev13, hf⟩ := ob hf
        refine g_getF dX11_isRefusedAhead_113 ev13 t_392 hin15 hc15 (by decide) rfl ?_
        obtain ⟨v14, ev14, hf⟩ := ob hf
        refine g_getIN dX11_isRefusedAhead_116 ev14 t_235 hin8 hc8 (by decide) rfl ?_
        obtain ⟨_, h17, hf⟩ := ob hf
        obtain ⟨σ15, v16, eσ15, hf⟩ := cb_el hf
        refine g_callV_v dX11_isRefusedAhead_119 (wX11_refuse _ eσ15) (okX11_refuse _ (by decide) (by decide)) (ckK_el h17) hc15 t_1492 t_1494 s_X11_refuse rfl (Nat.le_trans (cat_le _) (Nat.le_of_ble_eq_true rfl)) rfl ?_
        refine g_goto (tgt := 172) dX11_isRefusedAhead_122 (by decide) ?_
        refine g_iconst (v := 1) dX11_isRefusedAhead_172 (by decide) ?_
        exact g_iret dX11_isRefusedAhead_173 rfl (by decide) hX2 hX1 hf
  · rw [if_neg c7] at hf
    refine g_aload_n (j := 1) dX11_isRefusedAhead_82 rfl rfl ?_
    refine g_iconst (v := 2) dX11_isRefusedAhead_83 (by decide) ?_
    refine g_aload_n (j := 1) dX11_isRefusedAhead_84 rfl rfl ?_
    obtain ⟨v18, ev18, hf⟩ := ob hf
    refine g_getF dX11_isRefusedAhead_85 ev18 t_392 hin15 hc15 (by decide) rfl ?_
    obtain ⟨v19, ev19, hf⟩ := ob hf
    refine g_getIN dX11_isRefusedAhead_88 ev19 t_235 hin8 hc8 (by decide) rfl ?_
    obtain ⟨_, h22, hf⟩ := ob hf
    obtain ⟨σ20, v21, eσ20, hf⟩ := cb_el hf
    refine g_callV_v dX11_isRefusedAhead_91 (wX11_refuse _ eσ20) (okX11_refuse _ (by decide) (by decide)) (ckK_el h22) hc15 t_1492 t_1494 s_X11_refuse rfl (Nat.le_trans (cat_le _) (Nat.le_of_ble_eq_true rfl)) rfl ?_
    refine g_goto (tgt := 172) dX11_isRefusedAhead_94 (by decide) ?_
    refine g_iconst (v := 1) dX11_isRefusedAhead_172 (by decide) ?_
    exact g_iret dX11_isRefusedAhead_173 rfl (by decide) hX2 hX1 hf

set_option maxRecDepth 100000 in
set_option maxHeartbeats 4000000 in
theorem wX11_isRefusedAhead (l : Launch) {σ σf : St} {x0 : Nat} {r : Int32} (hf : fX11_isRefusedAhead σ x0 = some (σf, r)) : Con MtX11_isRefusedAhead yX11_isRefusedAhead l σ [rv x0] σf (some (.int r)) := by
  refine Con.of (by decide +kernel) rfl (fun h => absurd (show false = true from h) (by decide)) (by simp only [sl_n, sl_r, sl_i, sl_l]; exact Nat.le_of_ble_eq_true rfl) ?_
  rw [show lv_args 0 [rv x0] = [(0, rv x0)] by simp only [la_n, la_r, la_i, la_l] <;> rfl]
  have hX1 : ((l, σ, σf, .inl (some (.int r))) : Xt).2.2.1 = σf := rfl
  have hX2 : ((l, σ, σf, .inl (some (.int r))) : Xt).2.2.2 = .inl (some (.int r)) := rfl
  unfold fX11_isRefusedAhead at hf
  refine g_aload_n (j := 0) dX11_isRefusedAhead_0 rfl rfl ?_
  obtain ⟨_, h3, hf⟩ := ob hf
  obtain ⟨σ1, a2, eσ1, hf⟩ := cb_el hf
  refine g_callV_q dX11_isRefusedAhead_1 (wX11_present _ eσ1) (okX11_present _ (by decide) (by decide)) (ckK_el h3) hc15 t_959 t_961 s_X11_present rfl (Nat.le_trans (cat_le _) (Nat.le_of_ble_eq_true rfl)) rfl ?_
  obtain ⟨v4, ev4, hf⟩ := ob hf
  refine g_getFN dX11_isRefusedAhead_4 ev4 t_367 hin11 hc11 (by decide) rfl ?_
  refine g_astore_n (i := 1) (L' := [(1, rv v4), (0, rv x0)]) dX11_isRefusedAhead_7 rfl (Nat.le_of_ble_eq_true rfl) (by simp [rv_cat]) ?_
  refine g_aload_n (j := 0) dX11_isRefusedAhead_8 rfl rfl ?_
  refine g_aload_n (j := 1) dX11_isRefusedAhead_9 rfl rfl ?_
  obtain ⟨v5, ev5, hf⟩ := ob hf
  refine g_getF dX11_isRefusedAhead_10 ev5 t_392 hin15 hc15 (by decide) rfl ?_
  obtain ⟨v6, ev6, hf⟩ := ob hf
  refine g_getFN dX11_isRefusedAhead_13 ev6 t_241 hin8 hc8 (by decide) rfl ?_
  obtain ⟨_, h9, hf⟩ := ob hf
  obtain ⟨σ7, v8, eσ7, hf⟩ := cb_el hf
  refine g_callVN_i dX11_isRefusedAhead_16 (wX0_firstUnknown _ eσ7) (okX0_firstUnknown _ (by decide) (by decide)) (ckK_el h9) hc4 t_1477 t_1479 s_X0_firstUnknown rfl (Nat.le_trans (cat_le _) (Nat.le_of_ble_eq_true rfl)) rfl ?_
  refine g_istore_n (i := 2) (L' := [(2, .int v8), (1, rv v4), (0, rv x0)]) dX11_isRefusedAhead_19 rfl (Nat.le_of_ble_eq_true rfl) (by simp [rv_cat]) ?_
  refine g_iload_n (j := 0) dX11_isRefusedAhead_20 rfl rfl ?_
  refine g_iconst (v := (-1)) dX11_isRefusedAhead_21 (by decide) ?_
  refine g_icmp_eq (tgt := 33) dX11_isRefusedAhead_22 (by decide) (fun c10 => ?_) (fun c10 => ?_)
  · rw [if_pos c10] at hf
    refine g_aload_n (j := 2) dX11_isRefusedAhead_33 rfl rfl ?_
    obtain ⟨v11, ev11, hf⟩ := ob hf
    refine g_getF dX11_isRefusedAhead_34 ev11 t_392 hin15 hc15 (by decide) rfl ?_
    obtain ⟨v12, ev12, hf⟩ := ob hf
    refine g_getIN dX11_isRefusedAhead_37 ev12 t_231 hin8 hc8 (by decide) rfl ?_
    refine g_if_ne (tgt := 45) dX11_isRefusedAhead_40 (by decide) (fun c13 => ?_) (fun c13 => ?_)
    · rw [if_neg c13] at hf
      refine g_aload_n (j := 1) dX11_isRefusedAhead_45 rfl rfl ?_
      refine g_aload_n (j := 2) dX11_isRefusedAhead_46 rfl rfl ?_
      obtain ⟨v14, ev14, hf⟩ := ob hf
      refine g_getF dX11_isRefusedAhead_47 ev14 t_392 hin15 hc15 (by decide) rfl ?_
      obtain ⟨v15, ev15, hf⟩ := ob hf
      refine g_getIN dX11_isRefusedAhead_50 ev15 t_233 hin8 hc8 (by decide) rfl ?_
      refine g_aload_n (j := 2) dX11_isRefusedAhead_53 rfl rfl ?_
      obtain ⟨v16, ev16, hf⟩ := ob hf
      refine g_getF dX11_isRefusedAhead_54 ev16 t_392 hin15 hc15 (by decide) rfl ?_
      obtain ⟨v17, ev17, hf⟩ := ob hf
      refine g_getIN dX11_isRefusedAhead_57 ev17 t_231 hin8 hc8 (by decide) rfl ?_
      refine g_iconst (v := 2) dX11_isRefusedAhead_60 (by decide) ?_
      refine g_icmp_ne (tgt := 68) dX11_isRefusedAhead_61 (by decide) (fun c18 => ?_) (fun c18 => ?_)
      · rw [if_neg c18] at hf
        refine g_iconst (v := 0) dX11_isRefusedAhead_68 (by decide) ?_
        refine g_sub (L' := [(0, rv x0), (1, rv v4)]) [2, 1] rfl ?_
        exact bX11_isRefusedAhead_69 hX1 hX2 hf
      · rw [if_pos c18] at hf
        refine g_iconst (v := 1) dX11_isRefusedAhead_64 (by decide) ?_
        refine g_goto (tgt := 69) dX11_isRefusedAhead_65 (by decide) ?_
        refine g_sub (L' := [(0, rv x0), (1, rv v4)]) [2, 1] rfl ?_
        exact bX11_isRefusedAhead_69 hX1 hX2 hf
    · rw [if_pos c13] at hf
      refine g_iconst (v := 0) dX11_isRefusedAhead_43 (by decide) ?_
      exact g_iret dX11_isRefusedAhead_44 rfl (by decide) hX2 hX1 hf
  · rw [if_neg c10] at hf
    refine g_aload_n (j := 2) dX11_isRefusedAhead_25 rfl rfl ?_
    refine g_iconst (v := 1) dX11_isRefusedAhead_26 (by decide) ?_
    refine g_iload_n (j := 0) dX11_isRefusedAhead_27 rfl rfl ?_
    obtain ⟨_, h21, hf⟩ := ob hf
    obtain ⟨σ19, v20, eσ19, hf⟩ := cb_el hf
    refine g_callV_v dX11_isRefusedAhead_28 (wX11_refuse _ eσ19) (okX11_refuse _ (by decide) (by decide)) (ckK_el h21) hc15 t_1492 t_1494 s_X11_refuse rfl (Nat.le_trans (cat_le _) (Nat.le_of_ble_eq_true rfl)) rfl ?_
    refine g_iconst (v := 1) dX11_isRefusedAhead_31 (by decide) ?_
    exact g_iret dX11_isRefusedAhead_32 rfl (by decide) hX2 hX1 hf

theorem okX11_isRefusedAhead (M : Mt) (h1 : 5 + 1 ≤ M.2.2.2.2.1) (h2 : 8 + (4 + 11) + 174 ≤ M.2.2.2.2.2.1) : CallOk M MtX11_isRefusedAhead yX11_isRefusedAhead 0 := ⟨t_1476, h1, h2, ⟨by decide, by decide⟩, by decide +kernel, t_1⟩
abbrev MtX2_begin : Mt := (cX2_begin, 3, "ExactlySaid$Machine", none, 1, 84, false)
set_option maxRecDepth 100000 in
set_option maxHeartbeats 4000000 in
theorem wX2_begin (l : Launch) {σ σf : St} {x0 : Nat} {x1 : Nat} {x2 : Int32} {r : Unit} (hf : fX2_begin σ x0 x1 x2 = some (σf, r)) : Con MtX2_begin yX2_begin l σ [rv x0, rv x1, .int x2] σf (none) := by
  refine Con.of (by decide +kernel) rfl (fun h => absurd (show false = true from h) (by decide)) (by simp only [sl_n, sl_r, sl_i, sl_l]; exact Nat.le_of_ble_eq_true rfl) ?_
  rw [show lv_args 0 [rv x0, rv x1, .int x2] = [(0, rv x0), (1, rv x1), (2, .int x2)] by simp only [la_n, la_r, la_i, la_l] <;> rfl]
  have hX1 : ((l, σ, σf, .inl (none)) : Xt).2.2.1 = σf := rfl
  have hX2 : ((l, σ, σf, .inl (none)) : Xt).2.2.2 = .inl (none) := rfl
  unfold fX2_begin at hf
  refine g_aload_n (j := 0) dX2_begin_0 rfl rfl ?_
  obtain ⟨v1, ev1, hf⟩ := ob hf
  refine g_getF dX2_begin_1 ev1 t_293 hin6 hc6 (by decide) rfl ?_
  refine g_aload_n (j := 0) dX2_begin_4 rfl rfl ?_
  obtain ⟨v2, ev2, hf⟩ := ob hf
  refine g_getI dX2_begin_5 ev2 t_296 hin6 hc6 (by decide) rfl ?_
  refine g_aload_n (j := 1) dX2_begin_8 rfl rfl ?_
  obtain ⟨σ3, eσ3, hf⟩ := ob hf
  refine g_aast dX2_begin_9 (by decide) rfl hc13 eσ3 ?_
  refine g_aload_n (j := 0) dX2_begin_10 rfl rfl ?_
  obtain ⟨v4, ev4, hf⟩ := ob hf
  refine g_getF dX2_begin_11 ev4 t_294 hin6 hc6 (by decide) rfl ?_
  refine g_aload_n (j := 0) dX2_begin_14 rfl rfl ?_
  obtain ⟨v5, ev5, hf⟩ := ob hf
  refine g_getI dX2_begin_15 ev5 t_296 hin6 hc6 (by decide) rfl ?_
  refine g_iconst (v := 0) dX2_begin_18 (by decide) ?_
  obtain ⟨σ6, eσ6, hf⟩ := ob hf
  refine g_iast dX2_begin_19 eσ6 ?_
  refine g_aload_n (j := 0) dX2_begin_20 rfl rfl ?_
  obtain ⟨v7, ev7, hf⟩ := ob hf
  refine g_getF dX2_begin_21 ev7 t_295 hin6 hc6 (by decide) rfl ?_
  refine g_aload_n (j := 0) dX2_begin_24 rfl rfl ?_
  obtain ⟨v8, ev8, hf⟩ := ob hf
  refine g_getI dX2_begin_25 ev8 t_296 hin6 hc6 (by decide) rfl ?_
  refine g_aload_n (j := 0) dX2_begin_28 rfl rfl ?_
  obtain ⟨v9, ev9, hf⟩ := ob hf
  refine g_getI dX2_begin_29 ev9 t_292 hin6 hc6 (by decide) rfl ?_
  refine g_iload_n (j := 2) dX2_begin_32 rfl rfl ?_
  refine g_isub dX2_begin_33 ?_
  obtain ⟨σ10, eσ10, hf⟩ := ob hf
  refine g_iast dX2_begin_34 eσ10 ?_
  exact g_vret dX2_begin_35 rfl hX2 hX1 hf

theorem okX2_begin (M : Mt) (h1 : 1 + 1 ≤ M.2.2.2.2.1) (h2 : 8 + (3 + 11) + 84 ≤ M.2.2.2.2.2.1) : CallOk M MtX2_begin yX2_begin 2 := ⟨t_1110, h1, h2, ⟨by decide, by decide⟩, by decide +kernel, t_11⟩
abbrev MtX2_push : Mt := (cX2_push, 2, "ExactlySaid$Machine", (Option.some Jvm.ClassFile.FieldType.int), 3, 127, false)
set_option maxRecDepth 100000 in
set_option maxHeartbeats 4000000 in
theorem bX2_push_47 {X : Xt} {σf : St} {r : Int32} (hX1 : X.2.2.1 = σf) (hX2 : X.2.2.2 = .inl (some (.int r))) {σ : St} {x0 : Nat} {x1 : Nat} (hf : fX2_push_47 σ x0 x1 = some (σf, r)) : G MtX2_push X σ 47 [(0, rv x0), (1, rv x1)] [] := by
  unfold fX2_push_47 at hf
  refine g_aload_n (j := 0) dX2_push_47 rfl rfl ?_
  obtain ⟨v1, ev1, hf⟩ := ob hf
  refine g_getF dX2_push_48 ev1 t_291 hin6 hc6 (by decide) rfl ?_
  refine g_aload_n (j := 0) dX2_push_51 rfl rfl ?_
  obtain ⟨v2, ev2, hf⟩ := ob hf
  refine g_getI dX2_push_52 ev2 t_292 hin6 hc6 (by decide) rfl ?_
  obtain ⟨v3, ev3, hf⟩ := ob hf
  refine g_aald dX2_push_55 (by decide) rfl ev3 ?_
  refine g_aload_n (j := 1) dX2_push_56 rfl rfl ?_
  obtain ⟨_, h6, hf⟩ := ob hf
  obtain ⟨σ4, v5, eσ4, hf⟩ := cb_el hf
  refine g_callVN_v dX2_push_57 (wX1_setTo _ eσ4) (okX1_setTo _ (by decide) (by decide)) (ckK_el h6) hc5 t_1130 t_1046 s_X1_setTo rfl (Nat.le_trans (cat_le _) (Nat.le_of_ble_eq_true rfl)) rfl ?_
  refine g_aload_n (j := 0) dX2_push_60 rfl rfl ?_
  refine g_dup dX2_push_61 (rv_cat _) ?_
  obtain ⟨v7, ev7, hf⟩ := ob hf
  refine g_getI dX2_push_62 ev7 t_292 hin6 hc6 (by decide) rfl ?_
  refine g_iconst (v := 1) dX2_push_65 (by decide) ?_
  refine g_iadd dX2_push_66 ?_
  obtain ⟨σ8, eσ8, hf⟩ := ob hf
  refine g_putI dX2_push_67 eσ8 (Or.inl t_292) hin6 hc6 (by decide) hty6 hnm6 (Or.inl rfl) rfl rfl rfl ?_
  refine g_aload_n (j := 0) dX2_push_70 rfl rfl ?_
  obtain ⟨v9, ev9, hf⟩ := ob hf
  refine g_getF dX2_push_71 ev9 t_300 hin6 hc6 (by decide) rfl ?_
  refine g_aload_n (j := 1) dX2_push_74 rfl rfl ?_
  obtain ⟨_, h12, hf⟩ := ob hf
  obtain ⟨σ10, v11, eσ10, hf⟩ := cb_el hf
  refine g_callVN_v dX2_push_75 (wX1_setTo _ eσ10) (okX1_setTo _ (by decide) (by decide)) (ckK_el h12) hc5 t_1130 t_1046 s_X1_setTo rfl (Nat.le_trans (cat_le _) (Nat.le_of_ble_eq_true rfl)) rfl ?_
  refine g_iconst (v := 0) dX2_push_78 (by decide) ?_
  exact g_iret dX2_push_79 rfl rfl hX2 hX1 hf

set_option maxRecDepth 100000 in
set_option maxHeartbeats 4000000 in
theorem wX2_push (l : Launch) {σ σf : St} {x0 : Nat} {x1 : Nat} {r : Int32} (hf : fX2_push σ x0 x1 = some (σf, r)) : Con MtX2_push yX2_push l σ [rv x0, rv x1] σf (some (.int r)) := by
  refine Con.of (by decide +kernel) rfl (fun h => absurd (show false = true from h) (by decide)) (by simp only [sl_n, sl_r, sl_i, sl_l]; exact Nat.le_of_ble_eq_true rfl) ?_
  rw [show lv_args 0 [rv x0, rv x1] = [(0, rv x0), (1, rv x1)] by simp only [la_n, la_r, la_i, la_l] <;> rfl]
  have hX1 : ((l, σ, σf, .inl (some (.int r))) : Xt).2.2.1 = σf := rfl
  have hX2 : ((l, σ, σf, .inl (some (.int r))) : Xt).2.2.2 = .inl (some (.int r)) := rfl
  unfold fX2_push at hf
  refine g_aload_n (j := 1) dX2_push_0 rfl rfl ?_
  refine g_ifnull (tgt := 16) dX2_push_1 (by decide) (fun c1 => ?_) (fun c1 => ?_)
  · rw [if_pos c1] at hf
    refine g_bipush (v := 7) dX2_push_16 (by decide) ?_
    exact g_iret dX2_push_18 rfl rfl hX2 hX1 hf
  · rw [if_neg c1] at hf
    refine g_aload_n (j := 0) dX2_push_4 rfl rfl ?_
    obtain ⟨v2, ev2, hf⟩ := ob hf
    refine g_getI dX2_push_5 ev2 t_292 hin6 hc6 (by decide) rfl ?_
    refine g_aload_n (j := 0) dX2_push_8 rfl rfl ?_
    obtain ⟨v3, ev3, hf⟩ := ob hf
    refine g_getF dX2_push_9 ev3 t_291 hin6 hc6 (by decide) rfl ?_
    obtain ⟨v4, ev4, hf⟩ := ob hf
    refine g_alen dX2_push_12 ev4 ?_
    refine g_icmp_lt (tgt := 19) dX2_push_13 (by decide) (fun c5 => ?_) (fun c5 => ?_)
    · rw [if_pos c5] at hf
      refine g_aload_n (j := 0) dX2_push_19 rfl rfl ?_
      obtain ⟨v6, ev6, hf⟩ := ob hf
      refine g_getF dX2_push_20 ev6 t_291 hin6 hc6 (by decide) rfl ?_
      refine g_aload_n (j := 0) dX2_push_23 rfl rfl ?_
      obtain ⟨v7, ev7, hf⟩ := ob hf
      refine g_getI dX2_push_24 ev7 t_292 hin6 hc6 (by decide) rfl ?_
      obtain ⟨v8, ev8, hf⟩ := ob hf
      refine g_aald dX2_push_27 (by decide) rfl ev8 ?_
      refine g_ifnonnull (tgt := 47) dX2_push_28 (by decide) (fun c9 => ?_) (fun c9 => ?_)
      · rw [if_neg c9] at hf
        exact bX2_push_47 hX1 hX2 hf
      · rw [if_pos c9] at hf
        refine g_aload_n (j := 0) dX2_push_31 rfl rfl ?_
        obtain ⟨v10, ev10, hf⟩ := ob hf
        refine g_getF dX2_push_32 ev10 t_291 hin6 hc6 (by decide) rfl ?_
        refine g_aload_n (j := 0) dX2_push_35 rfl rfl ?_
        obtain ⟨v11, ev11, hf⟩ := ob hf
        refine g_getI dX2_push_36 ev11 t_292 hin6 hc6 (by decide) rfl ?_
        obtain ⟨σ12, eσ12, hf⟩ := nm_el hf
        obtain ⟨a13, ea13, hf⟩ := nm_el hf
        refine g_new9 dX2_push_39 hc5 hin5 hty5 hdf5 t_287 t_45 t_2 eσ12 ea13 ?_
        refine g_dup dX2_push_42 (rv_cat _) ?_
        obtain ⟨_, h16, hf⟩ := ob hf
        obtain ⟨σ14, v15, eσ14, hf⟩ := cb_el hf
        refine g_callIN dX2_push_43 (wX1_init _ eσ14) (okX1_init _ (by decide) (by decide)) rfl (by rw [ckK_el h16]; decide) rfl t_290 t_47 rfl (Nat.le_trans (cat_le _) (Nat.le_of_ble_eq_true rfl)) rfl ?_
        obtain ⟨σ17, eσ17, hf⟩ := ob hf
        refine g_aast dX2_push_46 (by decide) rfl hc5 eσ17 ?_
        exact bX2_push_47 hX1 hX2 hf
    · rw [if_neg c5] at hf
      refine g_bipush (v := 7) dX2_push_16 (by decide) ?_
      exact g_iret dX2_push_18 rfl rfl hX2 hX1 hf

theorem okX2_push (M : Mt) (h1 : 3 + 1 ≤ M.2.2.2.2.1) (h2 : 8 + (2 + 11) + 127 ≤ M.2.2.2.2.2.1) : CallOk M MtX2_push yX2_push 1 := ⟨t_1129, h1, h2, ⟨by decide, by decide⟩, by decide +kernel, t_11⟩
abbrev MtX2_finish : Mt := (cX2_finish, 4, "ExactlySaid$Machine", (Option.some Jvm.ClassFile.FieldType.int), 4, 149, false)
set_option maxRecDepth 100000 in
set_option maxHeartbeats 4000000 in
theorem bX2_finish_23 {X : Xt} {σf : St} {r : Int32} (hX1 : X.2.2.1 = σf) (hX2 : X.2.2.2 = .inl (some (.int r))) {σ : St} {x0 : Nat} {x2 : Int32} (hf : fX2_finish_23 σ x0 x2 = some (σf, r)) : G MtX2_finish X σ 23 [(0, rv x0), (2, .int x2)] [] := by
  unfold fX2_finish_23 at hf
  refine g_aload_n (j := 0) dX2_finish_23 rfl rfl ?_
  refine g_dup dX2_finish_24 (rv_cat _) ?_
  obtain ⟨v1, ev1, hf⟩ := ob hf
  refine g_getI dX2_finish_25 ev1 t_292 hin6 hc6 (by decide) rfl ?_
  refine g_iload_n (j := 1) dX2_finish_28 rfl rfl ?_
  refine g_isub dX2_finish_29 ?_
  obtain ⟨σ2, eσ2, hf⟩ := ob hf
  refine g_putI dX2_finish_30 eσ2 (Or.inl t_292) hin6 hc6 (by decide) hty6 hnm6 (Or.inl rfl) rfl rfl rfl ?_
  refine g_aload_n (j := 0) dX2_finish_33 rfl rfl ?_
  refine g_aload_n (j := 0) dX2_finish_34 rfl rfl ?_
  obtain ⟨v3, ev3, hf⟩ := ob hf
  refine g_getF dX2_finish_35 ev3 t_300 hin6 hc6 (by decide) rfl ?_
  obtain ⟨_, h6, hf⟩ := ob hf
  obtain ⟨σ4, v5, eσ4, hf⟩ := cb_el hf
  refine g_callV_i dX2_finish_38 (wX2_push _ eσ4) (okX2_push _ (by decide) (by decide)) (ckK_el h6) hc6 t_1126 t_1128 s_X2_push rfl (Nat.le_trans (cat_le _) (Nat.le_of_ble_eq_true rfl)) rfl ?_
  exact g_iret dX2_finish_41 rfl rfl hX2 hX1 hf

set_option maxRecDepth 100000 in
set_option maxHeartbeats 4000000 in
theorem wX2_finish (l : Launch) {σ σf : St} {x0 : Nat} {x1 : Int32} {x2 : Int32} {x3 : Nat} {r : Int32} (hf : fX2_finish σ x0 x1 x2 x3 = some (σf, r)) : Con MtX2_finish yX2_finish l σ [rv x0, .int x1, .int x2, rv x3] σf (some (.int r)) := by
  refine Con.of (by decide +kernel) rfl (fun h => absurd (show false = true from h) (by decide)) (by simp only [sl_n, sl_r, sl_i, sl_l]; exact Nat.le_of_ble_eq_true rfl) ?_
  rw [show lv_args 0 [rv x0, .int x1, .int x2, rv x3] = [(0, rv x0), (1, .int x1), (2, .int x2), (3, rv x3)] by simp only [la_n, la_r, la_i, la_l] <;> rfl]
  have hX1 : ((l, σ, σf, .inl (some (.int r))) : Xt).2.2.1 = σf := rfl
  have hX2 : ((l, σ, σf, .inl (some (.int r))) : Xt).2.2.2 = .inl (some (.int r)) := rfl
  unfold fX2_finish at hf
  refine g_aload_n (j := 0) dX2_finish_0 rfl rfl ?_
  refine g_dup dX2_finish_1 (rv_cat _) ?_
  obtain ⟨v1, ev1, hf⟩ := ob hf
  refine g_getI dX2_finish_2 ev1 t_297 hin6 hc6 (by decide) rfl ?_
  refine g_iconst (v := 1) dX2_finish_5 (by decide) ?_
  refine g_iadd dX2_finish_6 ?_
  obtain ⟨σ2, eσ2, hf⟩ := ob hf
  refine g_putI dX2_finish_7 eσ2 (Or.inl t_297) hin6 hc6 (by decide) hty6 hnm6 (Or.inl rfl) rfl rfl rfl ?_
  refine g_aload_n (j := 3) dX2_finish_10 rfl rfl ?_
  refine g_ifnull (tgt := 23) dX2_finish_11 (by decide) (fun c3 => ?_) (fun c3 => ?_)
  · rw [if_pos c3] at hf
    refine g_sub (L' := [(0, rv x0), (2, .int x2)]) [0, 2] rfl ?_
    exact bX2_finish_23 hX1 hX2 hf
  · rw [if_neg c3] at hf
    refine g_aload_n (j := 3) dX2_finish_14 rfl rfl ?_
    refine g_iload_n (j := 1) dX2_finish_15 rfl rfl ?_
    refine g_aload_n (j := 0) dX2_finish_16 rfl rfl ?_
    obtain ⟨v4, ev4, hf⟩ := ob hf
    refine g_getF dX2_finish_17 ev4 t_300 hin6 hc6 (by decide) rfl ?_
    obtain ⟨_, h7, hf⟩ := ob hf
    obtain ⟨σ5, v6, eσ5, hf⟩ := cb_el hf
    refine g_callVN_v dX2_finish_20 (wX8_note _ eσ5) (okX8_note _ (by decide) (by decide)) (ckK_el h7) hc12 t_1120 t_1122 s_X8_note rfl (Nat.le_trans (cat_le _) (Nat.le_of_ble_eq_true rfl)) rfl ?_
    refine g_sub (L' := [(0, rv x0), (2, .int x2)]) [0, 2] rfl ?_
    exact bX2_finish_23 hX1 hX2 hf

theorem okX2_finish (M : Mt) (h1 : 4 + 1 ≤ M.2.2.2.2.1) (h2 : 8 + (4 + 11) + 149 ≤ M.2.2.2.2.2.1) : CallOk M MtX2_finish yX2_finish 3 := ⟨t_1119, h1, h2, ⟨by decide, by decide⟩, by decide +kernel, t_11⟩
abbrev MtX2_leave : Mt := (cX2_leave, 3, "ExactlySaid$Machine", (Option.some Jvm.ClassFile.FieldType.int), 5, 172, false)
set_option maxRecDepth 100000 in
set_option maxHeartbeats 4000000 in
theorem wX2_leave (l : Launch) {σ σf : St} {x0 : Nat} {x1 : Nat} {r : Int32} (hf : fX2_leave σ x0 x1 = some (σf, r)) : Con MtX2_leave yX2_leave l σ [rv x0, rv x1] σf (some (.int r)) := by
  refine Con.of (by decide +kernel) rfl (fun h => absurd (show false = true from h) (by decide)) (by simp only [sl_n, sl_r, sl_i, sl_l]; exact Nat.le_of_ble_eq_true rfl) ?_
  rw [show lv_args 0 [rv x0, rv x1] = [(0, rv x0), (1, rv x1)] by simp only [la_n, la_r, la_i, la_l] <;> rfl]
  have hX1 : ((l, σ, σf, .inl (some (.int r))) : Xt).2.2.1 = σf := rfl
  have hX2 : ((l, σ, σf, .inl (some (.int r))) : Xt).2.2.2 = .inl (some (.int r)) := rfl
  unfold fX2_leave at hf
  refine g_aload_n (j := 0) dX2_leave_0 rfl rfl ?_
  obtain ⟨v1, ev1, hf⟩ := ob hf
  refine g_getI dX2_leave_1 ev1 t_297 hin6 hc6 (by decide) rfl ?_
  refine g_sipush (v := 200) dX2_leave_4 (by decide) ?_
  refine g_icmp_lt (tgt := 13) dX2_leave_7 (by decide) (fun c2 => ?_) (fun c2 => ?_)
  · rw [if_pos c2] at hf
    refine g_aload_n (j := 0) dX2_leave_13 rfl rfl ?_
    obtain ⟨v3, ev3, hf⟩ := ob hf
    refine g_getI dX2_leave_14 ev3 t_292 hin6 hc6 (by decide) rfl ?_
    refine g_aload_n (j := 0) dX2_leave_17 rfl rfl ?_
    obtain ⟨v4, ev4, hf⟩ := ob hf
    refine g_getF dX2_leave_18 ev4 t_295 hin6 hc6 (by decide) rfl ?_
    refine g_aload_n (j := 0) dX2_leave_21 rfl rfl ?_
    obtain ⟨v5, ev5, hf⟩ := ob hf
    refine g_getI dX2_leave_22 ev5 t_296 hin6 hc6 (by decide) rfl ?_
    obtain ⟨v6, ev6, hf⟩ := ob hf
    refine g_iald dX2_leave_25 ev6 ?_
    refine g_isub dX2_leave_26 ?_
    obtain ⟨v7, ev7, hf⟩ := nm_el hf
    refine g_topI ev7 ?_
    refine g_istore_n (i := 2) (L' := [(2, .int v7), (0, rv x0), (1, rv x1)]) dX2_leave_27 rfl (Nat.le_of_ble_eq_true rfl) (by simp [rv_cat]) ?_
    refine g_aload_n (j := 1) dX2_leave_28 rfl rfl ?_
    refine g_dup dX2_leave_29 (rv_cat _) ?_
    obtain ⟨v8, ev8, hf⟩ := ob hf
    refine g_getI dX2_leave_30 ev8 t_296 hin6 hc6 (by decide) rfl ?_
    refine g_iconst (v := 1) dX2_leave_33 (by decide) ?_
    refine g_isub dX2_leave_34 ?_
    obtain ⟨σ9, eσ9, hf⟩ := ob hf
    refine g_putI dX2_leave_35 eσ9 (Or.inl t_296) hin6 hc6 (by decide) hty6 hnm6 (Or.inl rfl) rfl rfl rfl ?_
    refine g_aload_n (j := 1) dX2_leave_38 rfl rfl ?_
    refine g_bipush (v := 9) dX2_leave_39 (by decide) ?_
    refine g_iload_n (j := 0) dX2_leave_41 rfl rfl ?_
    refine g_aload_n (j := 2) dX2_leave_42 rfl rfl ?_
    obtain ⟨_, h12, hf⟩ := ob hf
    obtain ⟨σ10, v11, eσ10, hf⟩ := cb_el hf
    refine g_callV_i dX2_leave_43 (wX2_finish _ eσ10) (okX2_finish _ (by decide) (by decide)) (ckK_el h12) hc6 t_1116 t_1118 s_X2_finish rfl (Nat.le_trans (cat_le _) (Nat.le_of_ble_eq_true rfl)) rfl ?_
    exact g_iret dX2_leave_46 rfl rfl hX2 hX1 hf
  · rw [if_neg c2] at hf
    refine g_bipush (v := 8) dX2_leave_10 (by decide) ?_
    exact g_iret dX2_leave_12 rfl rfl hX2 hX1 hf

theorem okX2_leave (M : Mt) (h1 : 5 + 1 ≤ M.2.2.2.2.1) (h2 : 8 + (3 + 11) + 172 ≤ M.2.2.2.2.2.1) : CallOk M MtX2_leave yX2_leave 1 := ⟨t_1115, h1, h2, ⟨by decide, by decide⟩, by decide +kernel, t_11⟩
abbrev MtX2_enter : Mt := (cX2_enter, 2, "ExactlySaid$Machine", (Option.some Jvm.ClassFile.FieldType.int), 2, 106, false)
set_option maxRecDepth 100000 in
set_option maxHeartbeats 4000000 in
theorem wX2_enter (l : Launch) {σ σf : St} {x0 : Nat} {x1 : Nat} {r : Int32} (hf : fX2_enter σ x0 x1 = some (σf, r)) : Con MtX2_enter yX2_enter l σ [rv x0, rv x1] σf (some (.int r)) := by
  refine Con.of (by decide +kernel) rfl (fun h => absurd (show false = true from h) (by decide)) (by simp only [sl_n, sl_r, sl_i, sl_l]; exact Nat.le_of_ble_eq_true rfl) ?_
  rw [show lv_args 0 [rv x0, rv x1] = [(0, rv x0), (1, rv x1)] by simp only [la_n, la_r, la_i, la_l] <;> rfl]
  have hX1 : ((l, σ, σf, .inl (some (.int r))) : Xt).2.2.1 = σf := rfl
  have hX2 : ((l, σ, σf, .inl (some (.int r))) : Xt).2.2.2 = .inl (some (.int r)) := rfl
  unfold fX2_enter at hf
  refine g_aload_n (j := 1) dX2_enter_0 rfl rfl ?_
  refine g_ifnull (tgt := 29) dX2_enter_1 (by decide) (fun c1 => ?_) (fun c1 => ?_)
  · rw [if_pos c1] at hf
    refine g_bipush (v := 8) dX2_enter_29 (by decide) ?_
    exact g_iret dX2_enter_31 rfl rfl hX2 hX1 hf
  · rw [if_neg c1] at hf
    refine g_aload_n (j := 0) dX2_enter_4 rfl rfl ?_
    obtain ⟨v2, ev2, hf⟩ := ob hf
    refine g_getI dX2_enter_5 ev2 t_296 hin6 hc6 (by decide) rfl ?_
    refine g_iconst (v := 1) dX2_enter_8 (by decide) ?_
    refine g_iadd dX2_enter_9 ?_
    refine g_aload_n (j := 0) dX2_enter_10 rfl rfl ?_
    obtain ⟨v3, ev3, hf⟩ := ob hf
    refine g_getF dX2_enter_11 ev3 t_293 hin6 hc6 (by decide) rfl ?_
    obtain ⟨v4, ev4, hf⟩ := ob hf
    refine g_alen dX2_enter_14 ev4 ?_
    refine g_icmp_ge (tgt := 29) dX2_enter_15 (by decide) (fun c5 => ?_) (fun c5 => ?_)
    · rw [if_pos c5] at hf
      refine g_bipush (v := 8) dX2_enter_29 (by decide) ?_
      exact g_iret dX2_enter_31 rfl rfl hX2 hX1 hf
    · rw [if_neg c5] at hf
      refine g_aload_n (j := 1) dX2_enter_18 rfl rfl ?_
      obtain ⟨v6, ev6, hf⟩ := ob hf
      refine g_getIN dX2_enter_19 ev6 t_1563 hin14 hc14 (by decide) rfl ?_
      refine g_aload_n (j := 0) dX2_enter_22 rfl rfl ?_
      obtain ⟨v7, ev7, hf⟩ := ob hf
      refine g_getI dX2_enter_23 ev7 t_292 hin6 hc6 (by decide) rfl ?_
      refine g_icmp_le (tgt := 32) dX2_enter_26 (by decide) (fun c8 => ?_) (fun c8 => ?_)
      · rw [if_pos c8] at hf
        refine g_aload_n (j := 0) dX2_enter_32 rfl rfl ?_
        refine g_dup dX2_enter_33 (rv_cat _) ?_
        obtain ⟨v9, ev9, hf⟩ := ob hf
        refine g_getI dX2_enter_34 ev9 t_296 hin6 hc6 (by decide) rfl ?_
        refine g_iconst (v := 1) dX2_enter_37 (by decide) ?_
        refine g_iadd dX2_enter_38 ?_
        obtain ⟨σ10, eσ10, hf⟩ := ob hf
        refine g_putI dX2_enter_39 eσ10 (Or.inl t_296) hin6 hc6 (by decide) hty6 hnm6 (Or.inl rfl) rfl rfl rfl ?_
        refine g_aload_n (j := 0) dX2_enter_42 rfl rfl ?_
        refine g_aload_n (j := 1) dX2_enter_43 rfl rfl ?_
        obtain ⟨v11, ev11, hf⟩ := ob hf
        refine g_getFN dX2_enter_44 ev11 t_1567 hin14 hc14 (by decide) rfl ?_
        refine g_aload_n (j := 1) dX2_enter_47 rfl rfl ?_
        obtain ⟨v12, ev12, hf⟩ := ob hf
        refine g_getIN dX2_enter_48 ev12 t_1563 hin14 hc14 (by decide) rfl ?_
        obtain ⟨_, h15, hf⟩ := ob hf
        obtain ⟨σ13, v14, eσ13, hf⟩ := cb_el hf
        refine g_callV_v dX2_enter_51 (wX2_begin _ eσ13) (okX2_begin _ (by decide) (by decide)) (ckK_el h15) hc6 t_1107 t_1109 s_X2_begin rfl (Nat.le_trans (cat_le _) (Nat.le_of_ble_eq_true rfl)) rfl ?_
        refine g_iconst (v := 0) dX2_enter_54 (by decide) ?_
        exact g_iret dX2_enter_55 rfl rfl hX2 hX1 hf
      · rw [if_neg c8] at hf
        refine g_bipush (v := 8) dX2_enter_29 (by decide) ?_
        exact g_iret dX2_enter_31 rfl rfl hX2 hX1 hf

theorem okX2_enter (M : Mt) (h1 : 2 + 1 ≤ M.2.2.2.2.1) (h2 : 8 + (2 + 11) + 106 ≤ M.2.2.2.2.2.1) : CallOk M MtX2_enter yX2_enter 1 := ⟨t_1139, h1, h2, ⟨by decide, by decide⟩, by decide +kernel, t_11⟩
abbrev MtX2_valueAt : Mt := (cX2_valueAt, 6, "ExactlySaid$Machine", (Option.some (Jvm.ClassFile.FieldType.object "ExactlySaid$Fraction")), 2, 108, false)
set_option maxRecDepth 100000 in
set_option maxHeartbeats 4000000 in
theorem wX2_valueAt (l : Launch) {σ σf : St} {x0 : Nat} {x1 : Nat} {x2 : Int32} {x3 : Nat} {r : Nat} (hf : fX2_valueAt σ x0 x1 x2 x3 = some (σf, r)) : Con MtX2_valueAt yX2_valueAt l σ [rv x0, rv x1, .int x2, rv x3] σf (some (rv r)) := by
  refine Con.of (by decide +kernel) rfl (fun h => absurd (show false = true from h) (by decide)) (by simp only [sl_n, sl_r, sl_i, sl_l]; exact Nat.le_of_ble_eq_true rfl) ?_
  rw [show lv_args 0 [rv x0, rv x1, .int x2, rv x3] = [(0, rv x0), (1, rv x1), (2, .int x2), (3, rv x3)] by simp only [la_n, la_r, la_i, la_l] <;> rfl]
  have hX1 : ((l, σ, σf, .inl (some (rv r))) : Xt).2.2.1 = σf := rfl
  have hX2 : ((l, σ, σf, .inl (some (rv r))) : Xt).2.2.2 = .inl (some (rv r)) := rfl
  unfold fX2_valueAt at hf
  refine g_aload_n (j := 1) dX2_valueAt_0 rfl rfl ?_
  obtain ⟨v1, ev1, hf⟩ := ob hf
  refine g_getFN dX2_valueAt_1 ev1 t_1448 hin13 hc13 (by decide) rfl ?_
  refine g_iload_n (j := 2) dX2_valueAt_4 rfl rfl ?_
  obtain ⟨v2, ev2, hf⟩ := ob hf
  refine g_iald dX2_valueAt_5 ev2 ?_
  refine g_istore (i := 4) (L' := [(4, .int v2), (0, rv x0), (1, rv x1), (2, .int x2), (3, rv x3)]) dX2_valueAt_6 (Nat.le_of_ble_eq_true rfl) (by simp [rv_cat]) ?_
  refine g_aload_n (j := 2) dX2_valueAt_8 rfl rfl ?_
  obtain ⟨v3, ev3, hf⟩ := ob hf
  refine g_getFN dX2_valueAt_9 ev3 t_1445 hin13 hc13 (by decide) rfl ?_
  refine g_iload_n (j := 3) dX2_valueAt_12 rfl rfl ?_
  obtain ⟨v4, ev4, hf⟩ := ob hf
  refine g_iald dX2_valueAt_13 ev4 ?_
  refine g_bipush (v := 21) dX2_valueAt_14 (by decide) ?_
  refine g_icmp_ne (tgt := 46) dX2_valueAt_16 (by decide) (fun c5 => ?_) (fun c5 => ?_)
  · rw [if_neg c5] at hf
    refine g_aload_n (j := 2) dX2_valueAt_46 rfl rfl ?_
    obtain ⟨v6, ev6, hf⟩ := ob hf
    refine g_getFN dX2_valueAt_47 ev6 t_1445 hin13 hc13 (by decide) rfl ?_
    refine g_iload_n (j := 3) dX2_valueAt_50 rfl rfl ?_
    obtain ⟨v7, ev7, hf⟩ := ob hf
    refine g_iald dX2_valueAt_51 ev7 ?_
    refine g_bipush (v := 23) dX2_valueAt_52 (by decide) ?_
    refine g_icmp_ne (tgt := 97) dX2_valueAt_54 (by decide) (fun c8 => ?_) (fun c8 => ?_)
    · rw [if_neg c8] at hf
      refine g_aload_n (j := 4) dX2_valueAt_97 rfl rfl ?_
      refine g_aload_n (j := 4) dX2_valueAt_98 rfl rfl ?_
      refine g_iload (j := 0) dX2_valueAt_99 rfl ?_
      refine g_iconst (v := 0) dX2_valueAt_101 (by decide) ?_
      obtain ⟨_, h11, hf⟩ := ob hf
      obtain ⟨σ9, v10, eσ9, hf⟩ := cb_el hf
      refine g_callVN_i dX2_valueAt_102 (wX0_find _ eσ9) (okX0_find _ (by decide) (by decide)) (ckK_el h11) hc4 t_1131 t_973 s_X0_find rfl (Nat.le_trans (cat_le _) (Nat.le_of_ble_eq_true rfl)) rfl ?_
      obtain ⟨_, h14, hf⟩ := ob hf
      obtain ⟨σ12, a13, eσ12, hf⟩ := cb_el hf
      refine g_callVN_q dX2_valueAt_105 (wX0_toldAt _ eσ12) (okX0_toldAt _ (by decide) (by decide)) (ckK_el h14) hc4 t_1132 t_1134 s_X0_toldAt rfl (Nat.le_trans (cat_le _) (Nat.le_of_ble_eq_true rfl)) rfl ?_
      refine g_astore (i := 5) (L' := [(5, rv a13), (4, .int v2), (0, rv x0), (1, rv x1), (2, .int x2), (3, rv x3)]) dX2_valueAt_108 (Nat.le_of_ble_eq_true rfl) rfl ?_
      refine g_aload (j := 0) dX2_valueAt_110 rfl ?_
      refine g_ifnonnull (tgt := 119) dX2_valueAt_112 (by decide) (fun c15 => ?_) (fun c15 => ?_)
      · rw [if_neg c15] at hf
        refine g_aload (j := 0) dX2_valueAt_119 rfl ?_
        obtain ⟨v16, ev16, hf⟩ := ob hf
        refine g_getFN dX2_valueAt_121 ev16 t_1570 hin14 hc14 (by decide) rfl ?_
        exact g_aret dX2_valueAt_124 rfl rfl hX2 hX1 hf
      · rw [if_pos c15] at hf
        refine g_null dX2_valueAt_115 ?_
        refine g_goto (tgt := 124) dX2_valueAt_116 (by decide) ?_
        exact g_aret dX2_valueAt_124 rfl rfl hX2 hX1 hf
    · rw [if_pos c8] at hf
      refine g_aload_n (j := 1) dX2_valueAt_57 rfl rfl ?_
      obtain ⟨v17, ev17, hf⟩ := ob hf
      refine g_getF dX2_valueAt_58 ev17 t_295 hin6 hc6 (by decide) rfl ?_
      refine g_aload_n (j := 1) dX2_valueAt_61 rfl rfl ?_
      obtain ⟨v18, ev18, hf⟩ := ob hf
      refine g_getI dX2_valueAt_62 ev18 t_296 hin6 hc6 (by decide) rfl ?_
      obtain ⟨v19, ev19, hf⟩ := ob hf
      refine g_iald dX2_valueAt_65 ev19 ?_
      refine g_iload (j := 0) dX2_valueAt_66 rfl ?_
      refine g_iadd dX2_valueAt_68 ?_
      obtain ⟨v20, ev20, hf⟩ := nm_el hf
      refine g_topI ev20 ?_
      refine g_istore (i := 5) (L' := [(5, .int v20), (4, .int v2), (0, rv x0), (1, rv x1), (2, .int x2), (3, rv x3)]) dX2_valueAt_69 (Nat.le_of_ble_eq_true rfl) rfl ?_
      refine g_iload (j := 0) dX2_valueAt_71 rfl ?_
      refine g_if_lt (tgt := 95) dX2_valueAt_73 (by decide) (fun c21 => ?_) (fun c21 => ?_)
      · rw [if_pos c21] at hf
        refine g_null dX2_valueAt_95 ?_
        exact g_aret dX2_valueAt_96 rfl rfl hX2 hX1 hf
      · rw [if_neg c21] at hf
        refine g_iload (j := 0) dX2_valueAt_76 rfl ?_
        refine g_aload_n (j := 2) dX2_valueAt_78 rfl rfl ?_
        obtain ⟨v22, ev22, hf⟩ := ob hf
        refine g_getI dX2_valueAt_79 ev22 t_292 hin6 hc6 (by decide) rfl ?_
        refine g_icmp_ge (tgt := 95) dX2_valueAt_82 (by decide) (fun c23 => ?_) (fun c23 => ?_)
        · rw [if_pos c23] at hf
          refine g_null dX2_valueAt_95 ?_
          exact g_aret dX2_valueAt_96 rfl rfl hX2 hX1 hf
        · rw [if_neg c23] at hf
          refine g_aload_n (j := 2) dX2_valueAt_85 rfl rfl ?_
          obtain ⟨v24, ev24, hf⟩ := ob hf
          refine g_getF dX2_valueAt_86 ev24 t_291 hin6 hc6 (by decide) rfl ?_
          refine g_iload (j := 0) dX2_valueAt_89 rfl ?_
          obtain ⟨v25, ev25, hf⟩ := ob hf
          refine g_aald dX2_valueAt_91 (by decide) rfl ev25 ?_
          refine g_goto (tgt := 96) dX2_valueAt_92 (by decide) ?_
          exact g_aret dX2_valueAt_96 rfl rfl hX2 hX1 hf
  · rw [if_pos c5] at hf
    refine g_iload (j := 0) dX2_valueAt_19 rfl ?_
    refine g_if_lt (tgt := 44) dX2_valueAt_21 (by decide) (fun c26 => ?_) (fun c26 => ?_)
    · rw [if_pos c26] at hf
      refine g_null dX2_valueAt_44 ?_
      exact g_aret dX2_valueAt_45 rfl rfl hX2 hX1 hf
    · rw [if_neg c26] at hf
      refine g_iload (j := 0) dX2_valueAt_24 rfl ?_
      refine g_aload_n (j := 2) dX2_valueAt_26 rfl rfl ?_
      obtain ⟨v27, ev27, hf⟩ := ob hf
      refine g_getFN dX2_valueAt_27 ev27 t_1456 hin13 hc13 (by decide) rfl ?_
      obtain ⟨v28, ev28, hf⟩ := ob hf
      refine g_alen dX2_valueAt_30 ev28 ?_
      refine g_icmp_ge (tgt := 44) dX2_valueAt_31 (by decide) (fun c29 => ?_) (fun c29 => ?_)
      · rw [if_pos c29] at hf
        refine g_null dX2_valueAt_44 ?_
        exact g_aret dX2_valueAt_45 rfl rfl hX2 hX1 hf
      · rw [if_neg c29] at hf
        refine g_aload_n (j := 2) dX2_valueAt_34 rfl rfl ?_
        obtain ⟨v30, ev30, hf⟩ := ob hf
        refine g_getFN dX2_valueAt_35 ev30 t_1456 hin13 hc13 (by decide) rfl ?_
        refine g_iload (j := 0) dX2_valueAt_38 rfl ?_
        obtain ⟨v31, ev31, hf⟩ := ob hf
        refine g_aald dX2_valueAt_40 (by decide) rfl ev31 ?_
        refine g_goto (tgt := 45) dX2_valueAt_41 (by decide) ?_
        exact g_aret dX2_valueAt_45 rfl rfl hX2 hX1 hf

theorem okX2_valueAt (M : Mt) (h1 : 2 + 1 ≤ M.2.2.2.2.1) (h2 : 8 + (6 + 11) + 108 ≤ M.2.2.2.2.2.1) : CallOk M MtX2_valueAt yX2_valueAt 3 := ⟨t_1143, h1, h2, ⟨by decide, by decide⟩, by decide +kernel, t_11⟩
abbrev MtX2_objection : Mt := (cX2_objection, 4, "ExactlySaid$Machine", (Option.some Jvm.ClassFile.FieldType.int), 3, 124, false)
set_option maxRecDepth 100000 in
set_option maxHeartbeats 4000000 in
theorem bX2_objection_100 {X : Xt} {σf : St} {r : Int32} (hX1 : X.2.2.1 = σf) (hX2 : X.2.2.2 = .inl (some (.int r))) {σ : St} {x3 : Nat} (hf : fX2_objection_100 σ x3 = some (σf, r)) : G MtX2_objection X σ 100 [(3, rv x3)] [] := by
  unfold fX2_objection_100 at hf
  refine g_aload_n (j := 0) dX2_objection_100 rfl rfl ?_
  obtain ⟨v1, ev1, hf⟩ := ob hf
  refine g_getIN dX2_objection_101 ev1 t_74 hin5 hc5 (by decide) rfl ?_
  refine g_if_ne (tgt := 111) dX2_objection_104 (by decide) (fun c2 => ?_) (fun c2 => ?_)
  · rw [if_neg c2] at hf
    refine g_iconst (v := 0) dX2_objection_111 (by decide) ?_
    exact g_iret dX2_objection_112 rfl rfl hX2 hX1 hf
  · rw [if_pos c2] at hf
    refine g_iconst (v := 5) dX2_objection_107 (by decide) ?_
    refine g_goto (tgt := 112) dX2_objection_108 (by decide) ?_
    exact g_iret dX2_objection_112 rfl rfl hX2 hX1 hf

set_option maxRecDepth 100000 in
set_option maxHeartbeats 4000000 in
theorem bX2_objection_188 {X : Xt} {σf : St} {r : Int32} (hX1 : X.2.2.1 = σf) (hX2 : X.2.2.2 = .inl (some (.int r))) {σ : St} {x2 : Nat} {x3 : Nat} (hf : fX2_objection_188 σ x2 x3 = some (σf, r)) : G MtX2_objection X σ 188 [(2, rv x2), (3, rv x3)] [] := by
  unfold fX2_objection_188 at hf
  refine g_aload_n (j := 0) dX2_objection_188 rfl rfl ?_
  obtain ⟨_, h3, hf⟩ := ob hf
  obtain ⟨σ1, v2, eσ1, hf⟩ := cb_el hf
  refine g_callVN_i dX2_objection_189 (wX1_isWhole _ eσ1) (okX1_isWhole _ (by decide) (by decide)) (ckK_el h3) hc5 t_1151 t_852 s_X1_isWhole rfl (Nat.le_trans (cat_le _) (Nat.le_of_ble_eq_true rfl)) rfl ?_
  refine g_if_eq (tgt := 206) dX2_objection_192 (by decide) (fun c4 => ?_) (fun c4 => ?_)
  · rw [if_pos c4] at hf
    refine g_bipush (v := 6) dX2_objection_206 (by decide) ?_
    exact g_iret dX2_objection_208 rfl rfl hX2 hX1 hf
  · rw [if_neg c4] at hf
    refine g_aload_n (j := 1) dX2_objection_195 rfl rfl ?_
    obtain ⟨_, h7, hf⟩ := ob hf
    obtain ⟨σ5, v6, eσ5, hf⟩ := cb_el hf
    refine g_callVN_i dX2_objection_196 (wX1_isWhole _ eσ5) (okX1_isWhole _ (by decide) (by decide)) (ckK_el h7) hc5 t_1151 t_852 s_X1_isWhole rfl (Nat.le_trans (cat_le _) (Nat.le_of_ble_eq_true rfl)) rfl ?_
    refine g_if_eq (tgt := 206) dX2_objection_199 (by decide) (fun c8 => ?_) (fun c8 => ?_)
    · rw [if_pos c8] at hf
      refine g_bipush (v := 6) dX2_objection_206 (by decide) ?_
      exact g_iret dX2_objection_208 rfl rfl hX2 hX1 hf
    · rw [if_neg c8] at hf
      refine g_iconst (v := 0) dX2_objection_202 (by decide) ?_
      refine g_goto (tgt := 208) dX2_objection_203 (by decide) ?_
      exact g_iret dX2_objection_208 rfl rfl hX2 hX1 hf

set_option maxRecDepth 100000 in
set_option maxHeartbeats 4000000 in
theorem wX2_objection (l : Launch) {σ σf : St} {x0 : Nat} {x1 : Int32} {r : Int32} (hf : fX2_objection σ x0 x1 = some (σf, r)) : Con MtX2_objection yX2_objection l σ [rv x0, .int x1] σf (some (.int r)) := by
  refine Con.of (by decide +kernel) rfl (fun h => absurd (show false = true from h) (by decide)) (by simp only [sl_n, sl_r, sl_i, sl_l]; exact Nat.le_of_ble_eq_true rfl) ?_
  rw [show lv_args 0 [rv x0, .int x1] = [(0, rv x0), (1, .int x1)] by simp only [la_n, la_r, la_i, la_l] <;> rfl]
  have hX1 : ((l, σ, σf, .inl (some (.int r))) : Xt).2.2.1 = σf := rfl
  have hX2 : ((l, σ, σf, .inl (some (.int r))) : Xt).2.2.2 = .inl (some (.int r)) := rfl
  unfold fX2_objection at hf
  refine g_aload_n (j := 0) dX2_objection_0 rfl rfl ?_
  obtain ⟨v1, ev1, hf⟩ := ob hf
  refine g_getI dX2_objection_1 ev1 t_297 hin6 hc6 (by decide) rfl ?_
  refine g_sipush (v := 200) dX2_objection_4 (by decide) ?_
  refine g_icmp_ge (tgt := 21) dX2_objection_7 (by decide) (fun c2 => ?_) (fun c2 => ?_)
  · rw [if_pos c2] at hf
    refine g_bipush (v := 8) dX2_objection_21 (by decide) ?_
    exact g_iret dX2_objection_23 rfl rfl hX2 hX1 hf
  · rw [if_neg c2] at hf
    refine g_aload_n (j := 0) dX2_objection_10 rfl rfl ?_
    obtain ⟨v3, ev3, hf⟩ := ob hf
    refine g_getI dX2_objection_11 ev3 t_292 hin6 hc6 (by decide) rfl ?_
    refine g_iload_n (j := 1) dX2_objection_14 rfl rfl ?_
    obtain ⟨σ4, v5, eσ4, hf⟩ := cb_el hf
    refine g_callSN_i dX2_objection_15 (wX11_valuesOf _ eσ4) (okX11_valuesOf _ (by decide) (by decide)) t_1148 t_1149 rfl (Nat.le_trans (cat_le _) (Nat.le_of_ble_eq_true rfl)) rfl ?_
    refine g_icmp_ge (tgt := 24) dX2_objection_18 (by decide) (fun c6 => ?_) (fun c6 => ?_)
    · rw [if_pos c6] at hf
      refine g_aload_n (j := 0) dX2_objection_24 rfl rfl ?_
      obtain ⟨v7, ev7, hf⟩ := ob hf
      refine g_getF dX2_objection_25 ev7 t_291 hin6 hc6 (by decide) rfl ?_
      refine g_aload_n (j := 0) dX2_objection_28 rfl rfl ?_
      obtain ⟨v8, ev8, hf⟩ := ob hf
      refine g_getI dX2_objection_29 ev8 t_292 hin6 hc6 (by decide) rfl ?_
      refine g_iload_n (j := 1) dX2_objection_32 rfl rfl ?_
      obtain ⟨σ9, v10, eσ9, hf⟩ := cb_el hf
      refine g_callSN_i dX2_objection_33 (wX11_valuesOf _ eσ9) (okX11_valuesOf _ (by decide) (by decide)) t_1148 t_1149 rfl (Nat.le_trans (cat_le _) (Nat.le_of_ble_eq_true rfl)) rfl ?_
      refine g_isub dX2_objection_36 ?_
      obtain ⟨v11, ev11, hf⟩ := ob hf
      refine g_aald dX2_objection_37 (by decide) rfl ev11 ?_
      refine g_astore_n (i := 2) (L' := [(2, rv v11), (0, rv x0), (1, .int x1)]) dX2_objection_38 rfl (Nat.le_of_ble_eq_true rfl) rfl ?_
      refine g_aload_n (j := 1) dX2_objection_39 rfl rfl ?_
      obtain ⟨v12, ev12, hf⟩ := ob hf
      refine g_getF dX2_objection_40 ev12 t_291 hin6 hc6 (by decide) rfl ?_
      refine g_aload_n (j := 1) dX2_objection_43 rfl rfl ?_
      obtain ⟨v13, ev13, hf⟩ := ob hf
      refine g_getI dX2_objection_44 ev13 t_292 hin6 hc6 (by decide) rfl ?_
      refine g_iconst (v := 1) dX2_objection_47 (by decide) ?_
      refine g_isub dX2_objection_48 ?_
      obtain ⟨v14, ev14, hf⟩ := ob hf
      refine g_aald dX2_objection_49 (by decide) rfl ev14 ?_
      refine g_astore_n (i := 3) (L' := [(3, rv v14), (2, rv v11), (0, rv x0), (1, .int x1)]) dX2_objection_50 rfl (Nat.le_of_ble_eq_true rfl) (by simp [rv_cat]) ?_
      refine g_iload_n (j := 3) dX2_objection_51 rfl rfl ?_
      by_cases c15 : x1 = 4
      · rw [if_pos c15] at hf
        refine g_tsIn (tgt := 100) dX2_objection_52 c15 (by decide) (by decide) rfl (by decide) ?_
        refine g_sub (L' := [(3, rv v14)]) [0] rfl ?_
        exact bX2_objection_100 hX1 hX2 hf
      · rw [if_neg c15] at hf
        by_cases c16 : x1 = 5
        · rw [if_pos c16] at hf
          refine g_tsIn (tgt := 100) dX2_objection_52 c16 (by decide) (by decide) rfl (by decide) ?_
          refine g_sub (L' := [(3, rv v14)]) [0] rfl ?_
          exact bX2_objection_100 hX1 hX2 hf
        · rw [if_neg c16] at hf
          by_cases c17 : x1 = 6
          · rw [if_pos c17] at hf
            refine g_tsIn (tgt := 113) dX2_objection_52 c17 (by decide) (by decide) rfl (by decide) ?_
            refine g_aload_n (j := 0) dX2_objection_113 rfl rfl ?_
            obtain ⟨_, h20, hf⟩ := ob hf
            obtain ⟨σ18, v19, eσ18, hf⟩ := cb_el hf
            refine g_callVN_i dX2_objection_114 (wX1_isWhole _ eσ18) (okX1_isWhole _ (by decide) (by decide)) (ckK_el h20) hc5 t_1151 t_852 s_X1_isWhole rfl (Nat.le_trans (cat_le _) (Nat.le_of_ble_eq_true rfl)) rfl ?_
            refine g_if_eq (tgt := 144) dX2_objection_117 (by decide) (fun c21 => ?_) (fun c21 => ?_)
            · rw [if_pos c21] at hf
              refine g_bipush (v := 6) dX2_objection_144 (by decide) ?_
              exact g_iret dX2_objection_146 rfl rfl hX2 hX1 hf
            · rw [if_neg c21] at hf
              refine g_aload_n (j := 0) dX2_objection_120 rfl rfl ?_
              obtain ⟨v22, ev22, hf⟩ := ob hf
              refine g_getFN dX2_objection_121 ev22 t_78 hin5 hc5 (by decide) rfl ?_
              obtain ⟨v23, ev23, hf⟩ := ob hf
              refine g_getIN dX2_objection_124 ev23 t_60 hin7 hc7 (by decide) rfl ?_
              refine g_iconst (v := 1) dX2_objection_127 (by decide) ?_
              refine g_icmp_gt (tgt := 144) dX2_objection_128 (by decide) (fun c24 => ?_) (fun c24 => ?_)
              · rw [if_pos c24] at hf
                refine g_bipush (v := 6) dX2_objection_144 (by decide) ?_
                exact g_iret dX2_objection_146 rfl rfl hX2 hX1 hf
              · rw [if_neg c24] at hf
                refine g_aload_n (j := 0) dX2_objection_131 rfl rfl ?_
                obtain ⟨v25, ev25, hf⟩ := ob hf
                refine g_getFN dX2_objection_132 ev25 t_78 hin5 hc5 (by decide) rfl ?_
                refine g_iconst (v := 0) dX2_objection_135 (by decide) ?_
                obtain ⟨_, h28, hf⟩ := ob hf
                obtain ⟨σ26, v27, eσ26, hf⟩ := cb_el hf
                refine g_callVN_i dX2_objection_136 (wX3_limb _ eσ26) (okX3_limb _ (by decide) (by decide)) (ckK_el h28) hc7 t_1152 t_848 s_X3_limb rfl (Nat.le_trans (cat_le _) (Nat.le_of_ble_eq_true rfl)) rfl ?_
                refine g_bipush (v := 100) dX2_objection_139 (by decide) ?_
                refine g_icmp_le (tgt := 147) dX2_objection_141 (by decide) (fun c29 => ?_) (fun c29 => ?_)
                · rw [if_pos c29] at hf
                  refine g_aload_n (j := 1) dX2_objection_147 rfl rfl ?_
                  obtain ⟨v30, ev30, hf⟩ := ob hf
                  refine g_getIN dX2_objection_148 ev30 t_74 hin5 hc5 (by decide) rfl ?_
                  refine g_if_ne (tgt := 165) dX2_objection_151 (by decide) (fun c31 => ?_) (fun c31 => ?_)
                  · rw [if_neg c31] at hf
                    refine g_iconst (v := 0) dX2_objection_165 (by decide) ?_
                    exact g_iret dX2_objection_166 rfl rfl hX2 hX1 hf
                  · rw [if_pos c31] at hf
                    refine g_aload_n (j := 0) dX2_objection_154 rfl rfl ?_
                    obtain ⟨v32, ev32, hf⟩ := ob hf
                    refine g_getIN dX2_objection_155 ev32 t_74 hin5 hc5 (by decide) rfl ?_
                    refine g_if_ge (tgt := 165) dX2_objection_158 (by decide) (fun c33 => ?_) (fun c33 => ?_)
                    · rw [if_pos c33] at hf
                      refine g_iconst (v := 0) dX2_objection_165 (by decide) ?_
                      exact g_iret dX2_objection_166 rfl rfl hX2 hX1 hf
                    · rw [if_neg c33] at hf
                      refine g_iconst (v := 5) dX2_objection_161 (by decide) ?_
                      refine g_goto (tgt := 166) dX2_objection_162 (by decide) ?_
                      exact g_iret dX2_objection_166 rfl rfl hX2 hX1 hf
                · rw [if_neg c29] at hf
                  refine g_bipush (v := 6) dX2_objection_144 (by decide) ?_
                  exact g_iret dX2_objection_146 rfl rfl hX2 hX1 hf
          · rw [if_neg c17] at hf
            by_cases c34 : x1 = 7
            · rw [if_pos c34] at hf
              refine g_tsIn (tgt := 167) dX2_objection_52 c34 (by decide) (by decide) rfl (by decide) ?_
              refine g_aload_n (j := 1) dX2_objection_167 rfl rfl ?_
              obtain ⟨_, h37, hf⟩ := ob hf
              obtain ⟨σ35, v36, eσ35, hf⟩ := cb_el hf
              refine g_callVN_i dX2_objection_168 (wX1_isWhole _ eσ35) (okX1_isWhole _ (by decide) (by decide)) (ckK_el h37) hc5 t_1151 t_852 s_X1_isWhole rfl (Nat.le_trans (cat_le _) (Nat.le_of_ble_eq_true rfl)) rfl ?_
              refine g_if_eq (tgt := 185) dX2_objection_171 (by decide) (fun c38 => ?_) (fun c38 => ?_)
              · rw [if_pos c38] at hf
                refine g_bipush (v := 6) dX2_objection_185 (by decide) ?_
                exact g_iret dX2_objection_187 rfl rfl hX2 hX1 hf
              · rw [if_neg c38] at hf
                refine g_aload_n (j := 1) dX2_objection_174 rfl rfl ?_
                obtain ⟨v39, ev39, hf⟩ := ob hf
                refine g_getIN dX2_objection_175 ev39 t_74 hin5 hc5 (by decide) rfl ?_
                refine g_if_lt (tgt := 185) dX2_objection_178 (by decide) (fun c40 => ?_) (fun c40 => ?_)
                · rw [if_pos c40] at hf
                  refine g_bipush (v := 6) dX2_objection_185 (by decide) ?_
                  exact g_iret dX2_objection_187 rfl rfl hX2 hX1 hf
                · rw [if_neg c40] at hf
                  refine g_iconst (v := 0) dX2_objection_181 (by decide) ?_
                  refine g_goto (tgt := 187) dX2_objection_182 (by decide) ?_
                  exact g_iret dX2_objection_187 rfl rfl hX2 hX1 hf
            · rw [if_neg c34] at hf
              by_cases c41 : x1 = 8
              · rw [if_pos c41] at hf
                refine g_tsIn (tgt := 209) dX2_objection_52 c41 (by decide) (by decide) rfl (by decide) ?_
                refine g_iconst (v := 0) dX2_objection_209 (by decide) ?_
                exact g_iret dX2_objection_210 rfl rfl hX2 hX1 hf
              · rw [if_neg c41] at hf
                by_cases c42 : x1 = 9
                · rw [if_pos c42] at hf
                  refine g_tsIn (tgt := 209) dX2_objection_52 c42 (by decide) (by decide) rfl (by decide) ?_
                  refine g_iconst (v := 0) dX2_objection_209 (by decide) ?_
                  exact g_iret dX2_objection_210 rfl rfl hX2 hX1 hf
                · rw [if_neg c42] at hf
                  by_cases c43 : x1 = 10
                  · rw [if_pos c43] at hf
                    refine g_tsIn (tgt := 188) dX2_objection_52 c43 (by decide) (by decide) rfl (by decide) ?_
                    refine g_sub (L' := [(2, rv v11), (3, rv v14)]) [1, 0] rfl ?_
                    exact bX2_objection_188 hX1 hX2 hf
                  · rw [if_neg c43] at hf
                    by_cases c44 : x1 = 11
                    · rw [if_pos c44] at hf
                      refine g_tsIn (tgt := 188) dX2_objection_52 c44 (by decide) (by decide) rfl (by decide) ?_
                      refine g_sub (L' := [(2, rv v11), (3, rv v14)]) [1, 0] rfl ?_
                      exact bX2_objection_188 hX1 hX2 hf
                    · rw [if_neg c44] at hf
                      have qc15 := lv_neT c15 (k := 4) (a := 4) rfl
                      have qc16 := lv_neT c16 (k := 5) (a := 5) rfl
                      have qc17 := lv_neT c17 (k := 6) (a := 6) rfl
                      have qc34 := lv_neT c34 (k := 7) (a := 7) rfl
                      have qc41 := lv_neT c41 (k := 8) (a := 8) rfl
                      have qc42 := lv_neT c42 (k := 9) (a := 9) rfl
                      have qc43 := lv_neT c43 (k := 10) (a := 10) rfl
                      have qc44 := lv_neT c44 (k := 11) (a := 11) rfl
                      refine g_tsOut (tgt := 209) dX2_objection_52 (by omega) (by decide) ?_
                      refine g_iconst (v := 0) dX2_objection_209 (by decide) ?_
                      exact g_iret dX2_objection_210 rfl rfl hX2 hX1 hf
    · rw [if_neg c6] at hf
      refine g_bipush (v := 8) dX2_objection_21 (by decide) ?_
      exact g_iret dX2_objection_23 rfl rfl hX2 hX1 hf

theorem okX2_objection (M : Mt) (h1 : 3 + 1 ≤ M.2.2.2.2.1) (h2 : 8 + (4 + 11) + 124 ≤ M.2.2.2.2.2.1) : CallOk M MtX2_objection yX2_objection 1 := ⟨t_1147, h1, h2, ⟨by decide, by decide⟩, by decide +kernel, t_11⟩
abbrev MtX5_join : Mt := (cX5_join, 5, "ExactlySaid$Reckoner", none, 3, 167, false)
set_option maxRecDepth 100000 in
set_option maxHeartbeats 4000000 in
theorem bX5_join_51 {X : Xt} {σf : St} {r : Unit} (hX1 : X.2.2.1 = σf) (hX2 : X.2.2.2 = .inl (none)) {σ : St} {y0 : Nat} {y1 : Int32} (hf : fX5_join_51 σ y0 y1 = some (σf, r)) : G MtX5_join X σ 51 [] [.int y1, rv y0] := by
  unfold fX5_join_51 at hf
  obtain ⟨_, h3, hf⟩ := ob hf
  obtain ⟨σ1, v2, eσ1, hf⟩ := cb_el hf
  refine g_callVN_v dX5_join_51 (wX1_setSign _ eσ1) (okX1_setSign _ (by decide) (by decide)) (ckK_el h3) hc5 t_1026 t_1028 s_X1_setSign rfl (Nat.le_trans (cat_le _) (Nat.le_of_ble_eq_true rfl)) rfl ?_
  refine g_goto (tgt := 119) dX5_join_54 (by decide) ?_
  exact g_vret dX5_join_119 rfl hX2 hX1 hf

set_option maxRecDepth 100000 in
set_option maxHeartbeats 4000000 in
theorem wX5_join (l : Launch) {σ σf : St} {x0 : Nat} {x1 : Int32} {x2 : Int32} {x3 : Nat} {r : Unit} (hf : fX5_join σ x0 x1 x2 x3 = some (σf, r)) : Con MtX5_join yX5_join l σ [rv x0, .int x1, .int x2, rv x3] σf (none) := by
  refine Con.of (by decide +kernel) rfl (fun h => absurd (show false = true from h) (by decide)) (by simp only [sl_n, sl_r, sl_i, sl_l]; exact Nat.le_of_ble_eq_true rfl) ?_
  rw [show lv_args 0 [rv x0, .int x1, .int x2, rv x3] = [(0, rv x0), (1, .int x1), (2, .int x2), (3, rv x3)] by simp only [la_n, la_r, la_i, la_l] <;> rfl]
  have hX1 : ((l, σ, σf, .inl (none)) : Xt).2.2.1 = σf := rfl
  have hX2 : ((l, σ, σf, .inl (none)) : Xt).2.2.2 = .inl (none) := rfl
  unfold fX5_join at hf
  refine g_aload_n (j := 0) dX5_join_0 rfl rfl ?_
  obtain ⟨v1, ev1, hf⟩ := ob hf
  refine g_getF dX5_join_1 ev1 t_168 hin9 hc9 (by decide) rfl ?_
  refine g_aload_n (j := 0) dX5_join_4 rfl rfl ?_
  obtain ⟨v2, ev2, hf⟩ := ob hf
  refine g_getF dX5_join_5 ev2 t_169 hin9 hc9 (by decide) rfl ?_
  obtain ⟨_, h5, hf⟩ := ob hf
  obtain ⟨σ3, v4, eσ3, hf⟩ := cb_el hf
  refine g_callVN_i dX5_join_8 (wX3_against _ eσ3) (okX3_against _ (by decide) (by decide)) (ckK_el h5) hc7 t_908 t_910 s_X3_against rfl (Nat.le_trans (cat_le _) (Nat.le_of_ble_eq_true rfl)) rfl ?_
  refine g_istore (i := 4) (L' := [(4, .int v4), (0, rv x0), (1, .int x1), (2, .int x2), (3, rv x3)]) dX5_join_11 (Nat.le_of_ble_eq_true rfl) (by simp [rv_cat]) ?_
  refine g_iload_n (j := 2) dX5_join_13 rfl rfl ?_
  refine g_iload_n (j := 3) dX5_join_14 rfl rfl ?_
  refine g_imul dX5_join_15 ?_
  refine g_if_lt (tgt := 57) dX5_join_16 (by decide) (fun c6 => ?_) (fun c6 => ?_)
  · rw [if_pos c6] at hf
    refine g_iload (j := 0) dX5_join_57 rfl ?_
    refine g_if_lt (tgt := 92) dX5_join_59 (by decide) (fun c7 => ?_) (fun c7 => ?_)
    · rw [if_pos c7] at hf
      refine g_aload_n (j := 4) dX5_join_92 rfl rfl ?_
      obtain ⟨v8, ev8, hf⟩ := ob hf
      refine g_getFN dX5_join_93 ev8 t_77 hin5 hc5 (by decide) rfl ?_
      refine g_aload_n (j := 1) dX5_join_96 rfl rfl ?_
      obtain ⟨v9, ev9, hf⟩ := ob hf
      refine g_getF dX5_join_97 ev9 t_169 hin9 hc9 (by decide) rfl ?_
      obtain ⟨_, h12, hf⟩ := ob hf
      obtain ⟨σ10, v11, eσ10, hf⟩ := cb_el hf
      refine g_callVN_v dX5_join_100 (wX3_setTo _ eσ10) (okX3_setTo _ (by decide) (by decide)) (ckK_el h12) hc7 t_863 t_865 s_X3_setTo rfl (Nat.le_trans (cat_le _) (Nat.le_of_ble_eq_true rfl)) rfl ?_
      refine g_aload_n (j := 4) dX5_join_103 rfl rfl ?_
      obtain ⟨v13, ev13, hf⟩ := ob hf
      refine g_getFN dX5_join_104 ev13 t_77 hin5 hc5 (by decide) rfl ?_
      refine g_aload_n (j := 1) dX5_join_107 rfl rfl ?_
      obtain ⟨v14, ev14, hf⟩ := ob hf
      refine g_getF dX5_join_108 ev14 t_168 hin9 hc9 (by decide) rfl ?_
      obtain ⟨_, h17, hf⟩ := ob hf
      obtain ⟨σ15, v16, eσ15, hf⟩ := cb_el hf
      refine g_callVN_v dX5_join_111 (wX3_minus _ eσ15) (okX3_minus _ (by decide) (by decide)) (ckK_el h17) hc7 t_912 t_914 s_X3_minus rfl (Nat.le_trans (cat_le _) (Nat.le_of_ble_eq_true rfl)) rfl ?_
      refine g_aload_n (j := 4) dX5_join_114 rfl rfl ?_
      refine g_iload_n (j := 3) dX5_join_115 rfl rfl ?_
      obtain ⟨_, h20, hf⟩ := ob hf
      obtain ⟨σ18, v19, eσ18, hf⟩ := cb_el hf
      refine g_callVN_v dX5_join_116 (wX1_setSign _ eσ18) (okX1_setSign _ (by decide) (by decide)) (ckK_el h20) hc5 t_1026 t_1028 s_X1_setSign rfl (Nat.le_trans (cat_le _) (Nat.le_of_ble_eq_true rfl)) rfl ?_
      exact g_vret dX5_join_119 rfl hX2 hX1 hf
    · rw [if_neg c7] at hf
      refine g_aload_n (j := 4) dX5_join_62 rfl rfl ?_
      obtain ⟨v21, ev21, hf⟩ := ob hf
      refine g_getFN dX5_join_63 ev21 t_77 hin5 hc5 (by decide) rfl ?_
      refine g_aload_n (j := 1) dX5_join_66 rfl rfl ?_
      obtain ⟨v22, ev22, hf⟩ := ob hf
      refine g_getF dX5_join_67 ev22 t_168 hin9 hc9 (by decide) rfl ?_
      obtain ⟨_, h25, hf⟩ := ob hf
      obtain ⟨σ23, v24, eσ23, hf⟩ := cb_el hf
      refine g_callVN_v dX5_join_70 (wX3_setTo _ eσ23) (okX3_setTo _ (by decide) (by decide)) (ckK_el h25) hc7 t_863 t_865 s_X3_setTo rfl (Nat.le_trans (cat_le _) (Nat.le_of_ble_eq_true rfl)) rfl ?_
      refine g_aload_n (j := 4) dX5_join_73 rfl rfl ?_
      obtain ⟨v26, ev26, hf⟩ := ob hf
      refine g_getFN dX5_join_74 ev26 t_77 hin5 hc5 (by decide) rfl ?_
      refine g_aload_n (j := 1) dX5_join_77 rfl rfl ?_
      obtain ⟨v27, ev27, hf⟩ := ob hf
      refine g_getF dX5_join_78 ev27 t_169 hin9 hc9 (by decide) rfl ?_
      obtain ⟨_, h30, hf⟩ := ob hf
      obtain ⟨σ28, v29, eσ28, hf⟩ := cb_el hf
      refine g_callVN_v dX5_join_81 (wX3_minus _ eσ28) (okX3_minus _ (by decide) (by decide)) (ckK_el h30) hc7 t_912 t_914 s_X3_minus rfl (Nat.le_trans (cat_le _) (Nat.le_of_ble_eq_true rfl)) rfl ?_
      refine g_aload_n (j := 4) dX5_join_84 rfl rfl ?_
      refine g_iload_n (j := 2) dX5_join_85 rfl rfl ?_
      obtain ⟨_, h33, hf⟩ := ob hf
      obtain ⟨σ31, v32, eσ31, hf⟩ := cb_el hf
      refine g_callVN_v dX5_join_86 (wX1_setSign _ eσ31) (okX1_setSign _ (by decide) (by decide)) (ckK_el h33) hc5 t_1026 t_1028 s_X1_setSign rfl (Nat.le_trans (cat_le _) (Nat.le_of_ble_eq_true rfl)) rfl ?_
      refine g_goto (tgt := 119) dX5_join_89 (by decide) ?_
      exact g_vret dX5_join_119 rfl hX2 hX1 hf
  · rw [if_neg c6] at hf
    refine g_aload_n (j := 4) dX5_join_19 rfl rfl ?_
    obtain ⟨v34, ev34, hf⟩ := ob hf
    refine g_getFN dX5_join_20 ev34 t_77 hin5 hc5 (by decide) rfl ?_
    refine g_aload_n (j := 1) dX5_join_23 rfl rfl ?_
    obtain ⟨v35, ev35, hf⟩ := ob hf
    refine g_getF dX5_join_24 ev35 t_168 hin9 hc9 (by decide) rfl ?_
    obtain ⟨_, h38, hf⟩ := ob hf
    obtain ⟨σ36, v37, eσ36, hf⟩ := cb_el hf
    refine g_callVN_v dX5_join_27 (wX3_setTo _ eσ36) (okX3_setTo _ (by decide) (by decide)) (ckK_el h38) hc7 t_863 t_865 s_X3_setTo rfl (Nat.le_trans (cat_le _) (Nat.le_of_ble_eq_true rfl)) rfl ?_
    refine g_aload_n (j := 4) dX5_join_30 rfl rfl ?_
    obtain ⟨v39, ev39, hf⟩ := ob hf
    refine g_getFN dX5_join_31 ev39 t_77 hin5 hc5 (by decide) rfl ?_
    refine g_aload_n (j := 1) dX5_join_34 rfl rfl ?_
    obtain ⟨v40, ev40, hf⟩ := ob hf
    refine g_getF dX5_join_35 ev40 t_169 hin9 hc9 (by decide) rfl ?_
    obtain ⟨_, h43, hf⟩ := ob hf
    obtain ⟨σ41, v42, eσ41, hf⟩ := cb_el hf
    refine g_callVN_v dX5_join_38 (wX3_plus _ eσ41) (okX3_plus _ (by decide) (by decide)) (ckK_el h43) hc7 t_1065 t_1067 s_X3_plus rfl (Nat.le_trans (cat_le _) (Nat.le_of_ble_eq_true rfl)) rfl ?_
    refine g_aload_n (j := 4) dX5_join_41 rfl rfl ?_
    refine g_iload_n (j := 2) dX5_join_42 rfl rfl ?_
    refine g_if_eq (tgt := 50) dX5_join_43 (by decide) (fun c44 => ?_) (fun c44 => ?_)
    · rw [if_pos c44] at hf
      refine g_iload_n (j := 3) dX5_join_50 rfl rfl ?_
      refine g_sub (L' := []) [] rfl ?_
      exact bX5_join_51 hX1 hX2 hf
    · rw [if_neg c44] at hf
      refine g_iload_n (j := 2) dX5_join_46 rfl rfl ?_
      refine g_goto (tgt := 51) dX5_join_47 (by decide) ?_
      refine g_sub (L' := []) [] rfl ?_
      exact bX5_join_51 hX1 hX2 hf

theorem okX5_join (M : Mt) (h1 : 3 + 1 ≤ M.2.2.2.2.1) (h2 : 8 + (5 + 11) + 167 ≤ M.2.2.2.2.2.1) : CallOk M MtX5_join yX5_join 3 := ⟨t_1064, h1, h2, ⟨by decide, by decide⟩, by decide +kernel, t_9⟩
abbrev MtX5_add : Mt := (cX5_add, 5, "ExactlySaid$Reckoner", none, 5, 227, false)
set_option maxRecDepth 100000 in
set_option maxHeartbeats 4000000 in
theorem bX5_add_107 {X : Xt} {σf : St} {r : Unit} (hX1 : X.2.2.1 = σf) (hX2 : X.2.2.2 = .inl (none)) {σ : St} {x0 : Nat} {x2 : Nat} {x4 : Nat} {y0 : Nat} {y1 : Int32} {y2 : Int32} (hf : fX5_add_107 σ x0 x2 x4 y0 y1 y2 = some (σf, r)) : G MtX5_add X σ 107 [(0, rv x0), (2, rv x2), (4, rv x4)] [.int y2, .int y1, rv y0] := by
  unfold fX5_add_107 at hf
  refine g_aload (j := 2) dX5_add_107 rfl ?_
  obtain ⟨_, h3, hf⟩ := ob hf
  obtain ⟨σ1, v2, eσ1, hf⟩ := cb_el hf
  refine g_callV_v dX5_add_109 (wX5_join _ eσ1) (okX5_join _ (by decide) (by decide)) (ckK_el h3) hc9 t_1061 t_1063 s_X5_join rfl (Nat.le_trans (cat_le _) (Nat.le_of_ble_eq_true rfl)) rfl ?_
  refine g_aload_n (j := 0) dX5_add_112 rfl rfl ?_
  refine g_aload (j := 2) dX5_add_113 rfl ?_
  obtain ⟨v4, ev4, hf⟩ := ob hf
  refine g_getFN dX5_add_115 ev4 t_77 hin5 hc5 (by decide) rfl ?_
  refine g_aload_n (j := 0) dX5_add_118 rfl rfl ?_
  obtain ⟨v5, ev5, hf⟩ := ob hf
  refine g_getF dX5_add_119 ev5 t_164 hin9 hc9 (by decide) rfl ?_
  refine g_aload_n (j := 0) dX5_add_122 rfl rfl ?_
  obtain ⟨v6, ev6, hf⟩ := ob hf
  refine g_getF dX5_add_123 ev6 t_165 hin9 hc9 (by decide) rfl ?_
  obtain ⟨_, h9, hf⟩ := ob hf
  obtain ⟨σ7, v8, eσ7, hf⟩ := cb_el hf
  refine g_callV_v dX5_add_126 (wX5_gcd _ eσ7) (okX5_gcd _ (by decide) (by decide)) (ckK_el h9) hc9 t_1053 t_1055 s_X5_gcd rfl (Nat.le_trans (cat_le _) (Nat.le_of_ble_eq_true rfl)) rfl ?_
  refine g_aload_n (j := 0) dX5_add_129 rfl rfl ?_
  refine g_aload (j := 2) dX5_add_130 rfl ?_
  obtain ⟨v10, ev10, hf⟩ := ob hf
  refine g_getFN dX5_add_132 ev10 t_77 hin5 hc5 (by decide) rfl ?_
  refine g_aload_n (j := 0) dX5_add_135 rfl rfl ?_
  obtain ⟨v11, ev11, hf⟩ := ob hf
  refine g_getF dX5_add_136 ev11 t_165 hin9 hc9 (by decide) rfl ?_
  refine g_aload_n (j := 0) dX5_add_139 rfl rfl ?_
  obtain ⟨v12, ev12, hf⟩ := ob hf
  refine g_getF dX5_add_140 ev12 t_168 hin9 hc9 (by decide) rfl ?_
  refine g_aload_n (j := 0) dX5_add_143 rfl rfl ?_
  obtain ⟨v13, ev13, hf⟩ := ob hf
  refine g_getF dX5_add_144 ev13 t_161 hin9 hc9 (by decide) rfl ?_
  obtain ⟨_, h16, hf⟩ := ob hf
  obtain ⟨σ14, v15, eσ14, hf⟩ := cb_el hf
  refine g_callV_v dX5_add_147 (wX5_divide _ eσ14) (okX5_divide _ (by decide) (by decide)) (ckK_el h16) hc9 t_929 t_931 s_X5_divide rfl (Nat.le_trans (cat_le _) (Nat.le_of_ble_eq_true rfl)) rfl ?_
  refine g_aload (j := 2) dX5_add_150 rfl ?_
  obtain ⟨v17, ev17, hf⟩ := ob hf
  refine g_getFN dX5_add_152 ev17 t_77 hin5 hc5 (by decide) rfl ?_
  refine g_aload_n (j := 0) dX5_add_155 rfl rfl ?_
  obtain ⟨v18, ev18, hf⟩ := ob hf
  refine g_getF dX5_add_156 ev18 t_168 hin9 hc9 (by decide) rfl ?_
  obtain ⟨_, h21, hf⟩ := ob hf
  obtain ⟨σ19, v20, eσ19, hf⟩ := cb_el hf
  refine g_callVN_v dX5_add_159 (wX3_setTo _ eσ19) (okX3_setTo _ (by decide) (by decide)) (ckK_el h21) hc7 t_863 t_865 s_X3_setTo rfl (Nat.le_trans (cat_le _) (Nat.le_of_ble_eq_true rfl)) rfl ?_
  refine g_aload_n (j := 0) dX5_add_162 rfl rfl ?_
  refine g_aload_n (j := 1) dX5_add_163 rfl rfl ?_
  obtain ⟨v22, ev22, hf⟩ := ob hf
  refine g_getFN dX5_add_164 ev22 t_82 hin5 hc5 (by decide) rfl ?_
  refine g_aload_n (j := 0) dX5_add_167 rfl rfl ?_
  obtain ⟨v23, ev23, hf⟩ := ob hf
  refine g_getF dX5_add_168 ev23 t_165 hin9 hc9 (by decide) rfl ?_
  refine g_aload_n (j := 0) dX5_add_171 rfl rfl ?_
  obtain ⟨v24, ev24, hf⟩ := ob hf
  refine g_getF dX5_add_172 ev24 t_167 hin9 hc9 (by decide) rfl ?_
  refine g_aload_n (j := 0) dX5_add_175 rfl rfl ?_
  obtain ⟨v25, ev25, hf⟩ := ob hf
  refine g_getF dX5_add_176 ev25 t_161 hin9 hc9 (by decide) rfl ?_
  obtain ⟨_, h28, hf⟩ := ob hf
  obtain ⟨σ26, v27, eσ26, hf⟩ := cb_el hf
  refine g_callV_v dX5_add_179 (wX5_divide _ eσ26) (okX5_divide _ (by decide) (by decide)) (ckK_el h28) hc9 t_929 t_931 s_X5_divide rfl (Nat.le_trans (cat_le _) (Nat.le_of_ble_eq_true rfl)) rfl ?_
  refine g_aload (j := 2) dX5_add_182 rfl ?_
  obtain ⟨v29, ev29, hf⟩ := ob hf
  refine g_getFN dX5_add_184 ev29 t_82 hin5 hc5 (by decide) rfl ?_
  refine g_aload_n (j := 0) dX5_add_187 rfl rfl ?_
  obtain ⟨v30, ev30, hf⟩ := ob hf
  refine g_getF dX5_add_188 ev30 t_166 hin9 hc9 (by decide) rfl ?_
  refine g_aload_n (j := 0) dX5_add_191 rfl rfl ?_
  obtain ⟨v31, ev31, hf⟩ := ob hf
  refine g_getF dX5_add_192 ev31 t_167 hin9 hc9 (by decide) rfl ?_
  obtain ⟨_, h34, hf⟩ := ob hf
  obtain ⟨σ32, v33, eσ32, hf⟩ := cb_el hf
  refine g_callVN_v dX5_add_195 (wX3_setProduct _ eσ32) (okX3_setProduct _ (by decide) (by decide)) (ckK_el h34) hc7 t_1057 t_1059 s_X3_setProduct rfl (Nat.le_trans (cat_le _) (Nat.le_of_ble_eq_true rfl)) rfl ?_
  exact g_vret dX5_add_198 rfl hX2 hX1 hf

set_option maxRecDepth 100000 in
set_option maxHeartbeats 4000000 in
theorem wX5_add (l : Launch) {σ σf : St} {x0 : Nat} {x1 : Nat} {x2 : Nat} {x3 : Int32} {x4 : Nat} {r : Unit} (hf : fX5_add σ x0 x1 x2 x3 x4 = some (σf, r)) : Con MtX5_add yX5_add l σ [rv x0, rv x1, rv x2, .int x3, rv x4] σf (none) := by
  refine Con.of (by decide +kernel) rfl (fun h => absurd (show false = true from h) (by decide)) (by simp only [sl_n, sl_r, sl_i, sl_l]; exact Nat.le_of_ble_eq_true rfl) ?_
  rw [show lv_args 0 [rv x0, rv x1, rv x2, .int x3, rv x4] = [(0, rv x0), (1, rv x1), (2, rv x2), (3, .int x3), (4, rv x4)] by simp only [la_n, la_r, la_i, la_l] <;> rfl]
  have hX1 : ((l, σ, σf, .inl (none)) : Xt).2.2.1 = σf := rfl
  have hX2 : ((l, σ, σf, .inl (none)) : Xt).2.2.2 = .inl (none) := rfl
  unfold fX5_add at hf
  refine g_aload_n (j := 0) dX5_add_0 rfl rfl ?_
  refine g_aload_n (j := 1) dX5_add_1 rfl rfl ?_
  obtain ⟨v1, ev1, hf⟩ := ob hf
  refine g_getFN dX5_add_2 ev1 t_82 hin5 hc5 (by decide) rfl ?_
  refine g_aload_n (j := 2) dX5_add_5 rfl rfl ?_
  obtain ⟨v2, ev2, hf⟩ := ob hf
  refine g_getFN dX5_add_6 ev2 t_82 hin5 hc5 (by decide) rfl ?_
  refine g_aload_n (j := 0) dX5_add_9 rfl rfl ?_
  obtain ⟨v3, ev3, hf⟩ := ob hf
  refine g_getF dX5_add_10 ev3 t_164 hin9 hc9 (by decide) rfl ?_
  obtain ⟨_, h6, hf⟩ := ob hf
  obtain ⟨σ4, v5, eσ4, hf⟩ := cb_el hf
  refine g_callV_v dX5_add_13 (wX5_gcd _ eσ4) (okX5_gcd _ (by decide) (by decide)) (ckK_el h6) hc9 t_1053 t_1055 s_X5_gcd rfl (Nat.le_trans (cat_le _) (Nat.le_of_ble_eq_true rfl)) rfl ?_
  refine g_aload_n (j := 0) dX5_add_16 rfl rfl ?_
  refine g_aload_n (j := 1) dX5_add_17 rfl rfl ?_
  obtain ⟨v7, ev7, hf⟩ := ob hf
  refine g_getFN dX5_add_18 ev7 t_82 hin5 hc5 (by decide) rfl ?_
  refine g_aload_n (j := 0) dX5_add_21 rfl rfl ?_
  obtain ⟨v8, ev8, hf⟩ := ob hf
  refine g_getF dX5_add_22 ev8 t_164 hin9 hc9 (by decide) rfl ?_
  refine g_aload_n (j := 0) dX5_add_25 rfl rfl ?_
  obtain ⟨v9, ev9, hf⟩ := ob hf
  refine g_getF dX5_add_26 ev9 t_166 hin9 hc9 (by decide) rfl ?_
  refine g_aload_n (j := 0) dX5_add_29 rfl rfl ?_
  obtain ⟨v10, ev10, hf⟩ := ob hf
  refine g_getF dX5_add_30 ev10 t_161 hin9 hc9 (by decide) rfl ?_
  obtain ⟨_, h13, hf⟩ := ob hf
  obtain ⟨σ11, v12, eσ11, hf⟩ := cb_el hf
  refine g_callV_v dX5_add_33 (wX5_divide _ eσ11) (okX5_divide _ (by decide) (by decide)) (ckK_el h13) hc9 t_929 t_931 s_X5_divide rfl (Nat.le_trans (cat_le _) (Nat.le_of_ble_eq_true rfl)) rfl ?_
  refine g_aload_n (j := 0) dX5_add_36 rfl rfl ?_
  refine g_aload_n (j := 2) dX5_add_37 rfl rfl ?_
  obtain ⟨v14, ev14, hf⟩ := ob hf
  refine g_getFN dX5_add_38 ev14 t_82 hin5 hc5 (by decide) rfl ?_
  refine g_aload_n (j := 0) dX5_add_41 rfl rfl ?_
  obtain ⟨v15, ev15, hf⟩ := ob hf
  refine g_getF dX5_add_42 ev15 t_164 hin9 hc9 (by decide) rfl ?_
  refine g_aload_n (j := 0) dX5_add_45 rfl rfl ?_
  obtain ⟨v16, ev16, hf⟩ := ob hf
  refine g_getF dX5_add_46 ev16 t_167 hin9 hc9 (by decide) rfl ?_
  refine g_aload_n (j := 0) dX5_add_49 rfl rfl ?_
  obtain ⟨v17, ev17, hf⟩ := ob hf
  refine g_getF dX5_add_50 ev17 t_161 hin9 hc9 (by decide) rfl ?_
  obtain ⟨_, h20, hf⟩ := ob hf
  obtain ⟨σ18, v19, eσ18, hf⟩ := cb_el hf
  refine g_callV_v dX5_add_53 (wX5_divide _ eσ18) (okX5_divide _ (by decide) (by decide)) (ckK_el h20) hc9 t_929 t_931 s_X5_divide rfl (Nat.le_trans (cat_le _) (Nat.le_of_ble_eq_true rfl)) rfl ?_
  refine g_aload_n (j := 0) dX5_add_56 rfl rfl ?_
  obtain ⟨v21, ev21, hf⟩ := ob hf
  refine g_getF dX5_add_57 ev21 t_168 hin9 hc9 (by decide) rfl ?_
  refine g_aload_n (j := 1) dX5_add_60 rfl rfl ?_
  obtain ⟨v22, ev22, hf⟩ := ob hf
  refine g_getFN dX5_add_61 ev22 t_77 hin5 hc5 (by decide) rfl ?_
  refine g_aload_n (j := 0) dX5_add_64 rfl rfl ?_
  obtain ⟨v23, ev23, hf⟩ := ob hf
  refine g_getF dX5_add_65 ev23 t_167 hin9 hc9 (by decide) rfl ?_
  obtain ⟨_, h26, hf⟩ := ob hf
  obtain ⟨σ24, v25, eσ24, hf⟩ := cb_el hf
  refine g_callVN_v dX5_add_68 (wX3_setProduct _ eσ24) (okX3_setProduct _ (by decide) (by decide)) (ckK_el h26) hc7 t_1057 t_1059 s_X3_setProduct rfl (Nat.le_trans (cat_le _) (Nat.le_of_ble_eq_true rfl)) rfl ?_
  refine g_aload_n (j := 0) dX5_add_71 rfl rfl ?_
  obtain ⟨v27, ev27, hf⟩ := ob hf
  refine g_getF dX5_add_72 ev27 t_169 hin9 hc9 (by decide) rfl ?_
  refine g_aload_n (j := 2) dX5_add_75 rfl rfl ?_
  obtain ⟨v28, ev28, hf⟩ := ob hf
  refine g_getFN dX5_add_76 ev28 t_77 hin5 hc5 (by decide) rfl ?_
  refine g_aload_n (j := 0) dX5_add_79 rfl rfl ?_
  obtain ⟨v29, ev29, hf⟩ := ob hf
  refine g_getF dX5_add_80 ev29 t_166 hin9 hc9 (by decide) rfl ?_
  obtain ⟨_, h32, hf⟩ := ob hf
  obtain ⟨σ30, v31, eσ30, hf⟩ := cb_el hf
  refine g_callVN_v dX5_add_83 (wX3_setProduct _ eσ30) (okX3_setProduct _ (by decide) (by decide)) (ckK_el h32) hc7 t_1057 t_1059 s_X3_setProduct rfl (Nat.le_trans (cat_le _) (Nat.le_of_ble_eq_true rfl)) rfl ?_
  refine g_aload_n (j := 0) dX5_add_86 rfl rfl ?_
  refine g_aload_n (j := 1) dX5_add_87 rfl rfl ?_
  obtain ⟨v33, ev33, hf⟩ := ob hf
  refine g_getIN dX5_add_88 ev33 t_73 hin5 hc5 (by decide) rfl ?_
  refine g_iload_n (j := 3) dX5_add_91 rfl rfl ?_
  refine g_if_eq (tgt := 103) dX5_add_92 (by decide) (fun c34 => ?_) (fun c34 => ?_)
  · rw [if_pos c34] at hf
    refine g_aload_n (j := 2) dX5_add_103 rfl rfl ?_
    obtain ⟨v35, ev35, hf⟩ := ob hf
    refine g_getIN dX5_add_104 ev35 t_73 hin5 hc5 (by decide) rfl ?_
    refine g_sub (L' := [(0, rv x0), (2, rv x2), (4, rv x4)]) [0, 2, 4] rfl ?_
    exact bX5_add_107 hX1 hX2 hf
  · rw [if_neg c34] at hf
    refine g_aload_n (j := 2) dX5_add_95 rfl rfl ?_
    obtain ⟨v36, ev36, hf⟩ := ob hf
    refine g_getIN dX5_add_96 ev36 t_73 hin5 hc5 (by decide) rfl ?_
    refine g_ineg dX5_add_99 ?_
    refine g_goto (tgt := 107) dX5_add_100 (by decide) ?_
    refine g_sub (L' := [(0, rv x0), (2, rv x2), (4, rv x4)]) [0, 2, 4] rfl ?_
    exact bX5_add_107 hX1 hX2 hf

theorem okX5_add (M : Mt) (h1 : 5 + 1 ≤ M.2.2.2.2.1) (h2 : 8 + (5 + 11) + 227 ≤ M.2.2.2.2.2.1) : CallOk M MtX5_add yX5_add 4 := ⟨t_1052, h1, h2, ⟨by decide, by decide⟩, by decide +kernel, t_9⟩
abbrev MtX5_multiply : Mt := (cX5_multiply, 4, "ExactlySaid$Reckoner", none, 5, 227, false)
set_option maxRecDepth 100000 in
set_option maxHeartbeats 4000000 in
theorem wX5_multiply (l : Launch) {σ σf : St} {x0 : Nat} {x1 : Nat} {x2 : Nat} {x3 : Nat} {r : Unit} (hf : fX5_multiply σ x0 x1 x2 x3 = some (σf, r)) : Con MtX5_multiply yX5_multiply l σ [rv x0, rv x1, rv x2, rv x3] σf (none) := by
  refine Con.of (by decide +kernel) rfl (fun h => absurd (show false = true from h) (by decide)) (by simp only [sl_n, sl_r, sl_i, sl_l]; exact Nat.le_of_ble_eq_true rfl) ?_
  rw [show lv_args 0 [rv x0, rv x1, rv x2, rv x3] = [(0, rv x0), (1, rv x1), (2, rv x2), (3, rv x3)] by simp only [la_n, la_r, la_i, la_l] <;> rfl]
  have hX1 : ((l, σ, σf, .inl (none)) : Xt).2.2.1 = σf := rfl
  have hX2 : ((l, σ, σf, .inl (none)) : Xt).2.2.2 = .inl (none) := rfl
  unfold fX5_multiply at hf
  refine g_aload_n (j := 0) dX5_multiply_0 rfl rfl ?_
  refine g_aload_n (j := 1) dX5_multiply_1 rfl rfl ?_
  obtain ⟨v1, ev1, hf⟩ := ob hf
  refine g_getFN dX5_multiply_2 ev1 t_77 hin5 hc5 (by decide) rfl ?_
  refine g_aload_n (j := 2) dX5_multiply_5 rfl rfl ?_
  obtain ⟨v2, ev2, hf⟩ := ob hf
  refine g_getFN dX5_multiply_6 ev2 t_82 hin5 hc5 (by decide) rfl ?_
  refine g_aload_n (j := 0) dX5_multiply_9 rfl rfl ?_
  obtain ⟨v3, ev3, hf⟩ := ob hf
  refine g_getF dX5_multiply_10 ev3 t_164 hin9 hc9 (by decide) rfl ?_
  obtain ⟨_, h6, hf⟩ := ob hf
  obtain ⟨σ4, v5, eσ4, hf⟩ := cb_el hf
  refine g_callV_v dX5_multiply_13 (wX5_gcd _ eσ4) (okX5_gcd _ (by decide) (by decide)) (ckK_el h6) hc9 t_1053 t_1055 s_X5_gcd rfl (Nat.le_trans (cat_le _) (Nat.le_of_ble_eq_true rfl)) rfl ?_
  refine g_aload_n (j := 0) dX5_multiply_16 rfl rfl ?_
  refine g_aload_n (j := 2) dX5_multiply_17 rfl rfl ?_
  obtain ⟨v7, ev7, hf⟩ := ob hf
  refine g_getFN dX5_multiply_18 ev7 t_77 hin5 hc5 (by decide) rfl ?_
  refine g_aload_n (j := 1) dX5_multiply_21 rfl rfl ?_
  obtain ⟨v8, ev8, hf⟩ := ob hf
  refine g_getFN dX5_multiply_22 ev8 t_82 hin5 hc5 (by decide) rfl ?_
  refine g_aload_n (j := 0) dX5_multiply_25 rfl rfl ?_
  obtain ⟨v9, ev9, hf⟩ := ob hf
  refine g_getF dX5_multiply_26 ev9 t_165 hin9 hc9 (by decide) rfl ?_
  obtain ⟨_, h12, hf⟩ := ob hf
  obtain ⟨σ10, v11, eσ10, hf⟩ := cb_el hf
  refine g_callV_v dX5_multiply_29 (wX5_gcd _ eσ10) (okX5_gcd _ (by decide) (by decide)) (ckK_el h12) hc9 t_1053 t_1055 s_X5_gcd rfl (Nat.le_trans (cat_le _) (Nat.le_of_ble_eq_true rfl)) rfl ?_
  refine g_aload_n (j := 0) dX5_multiply_32 rfl rfl ?_
  refine g_aload_n (j := 1) dX5_multiply_33 rfl rfl ?_
  obtain ⟨v13, ev13, hf⟩ := ob hf
  refine g_getFN dX5_multiply_34 ev13 t_77 hin5 hc5 (by decide) rfl ?_
  refine g_aload_n (j := 0) dX5_multiply_37 rfl rfl ?_
  obtain ⟨v14, ev14, hf⟩ := ob hf
  refine g_getF dX5_multiply_38 ev14 t_164 hin9 hc9 (by decide) rfl ?_
  refine g_aload_n (j := 0) dX5_multiply_41 rfl rfl ?_
  obtain ⟨v15, ev15, hf⟩ := ob hf
  refine g_getF dX5_multiply_42 ev15 t_166 hin9 hc9 (by decide) rfl ?_
  refine g_aload_n (j := 0) dX5_multiply_45 rfl rfl ?_
  obtain ⟨v16, ev16, hf⟩ := ob hf
  refine g_getF dX5_multiply_46 ev16 t_161 hin9 hc9 (by decide) rfl ?_
  obtain ⟨_, h19, hf⟩ := ob hf
  obtain ⟨σ17, v18, eσ17, hf⟩ := cb_el hf
  refine g_callV_v dX5_multiply_49 (wX5_divide _ eσ17) (okX5_divide _ (by decide) (by decide)) (ckK_el h19) hc9 t_929 t_931 s_X5_divide rfl (Nat.le_trans (cat_le _) (Nat.le_of_ble_eq_true rfl)) rfl ?_
  refine g_aload_n (j := 0) dX5_multiply_52 rfl rfl ?_
  refine g_aload_n (j := 2) dX5_multiply_53 rfl rfl ?_
  obtain ⟨v20, ev20, hf⟩ := ob hf
  refine g_getFN dX5_multiply_54 ev20 t_77 hin5 hc5 (by decide) rfl ?_
  refine g_aload_n (j := 0) dX5_multiply_57 rfl rfl ?_
  obtain ⟨v21, ev21, hf⟩ := ob hf
  refine g_getF dX5_multiply_58 ev21 t_165 hin9 hc9 (by decide) rfl ?_
  refine g_aload_n (j := 0) dX5_multiply_61 rfl rfl ?_
  obtain ⟨v22, ev22, hf⟩ := ob hf
  refine g_getF dX5_multiply_62 ev22 t_167 hin9 hc9 (by decide) rfl ?_
  refine g_aload_n (j := 0) dX5_multiply_65 rfl rfl ?_
  obtain ⟨v23, ev23, hf⟩ := ob hf
  refine g_getF dX5_multiply_66 ev23 t_161 hin9 hc9 (by decide) rfl ?_
  obtain ⟨_, h26, hf⟩ := ob hf
  obtain ⟨σ24, v25, eσ24, hf⟩ := cb_el hf
  refine g_callV_v dX5_multiply_69 (wX5_divide _ eσ24) (okX5_divide _ (by decide) (by decide)) (ckK_el h26) hc9 t_929 t_931 s_X5_divide rfl (Nat.le_trans (cat_le _) (Nat.le_of_ble_eq_true rfl)) rfl ?_
  refine g_aload_n (j := 3) dX5_multiply_72 rfl rfl ?_
  obtain ⟨v27, ev27, hf⟩ := ob hf
  refine g_getFN dX5_multiply_73 ev27 t_77 hin5 hc5 (by decide) rfl ?_
  refine g_aload_n (j := 0) dX5_multiply_76 rfl rfl ?_
  obtain ⟨v28, ev28, hf⟩ := ob hf
  refine g_getF dX5_multiply_77 ev28 t_166 hin9 hc9 (by decide) rfl ?_
  refine g_aload_n (j := 0) dX5_multiply_80 rfl rfl ?_
  obtain ⟨v29, ev29, hf⟩ := ob hf
  refine g_getF dX5_multiply_81 ev29 t_167 hin9 hc9 (by decide) rfl ?_
  obtain ⟨_, h32, hf⟩ := ob hf
  obtain ⟨σ30, v31, eσ30, hf⟩ := cb_el hf
  refine g_callVN_v dX5_multiply_84 (wX3_setProduct _ eσ30) (okX3_setProduct _ (by decide) (by decide)) (ckK_el h32) hc7 t_1057 t_1059 s_X3_setProduct rfl (Nat.le_trans (cat_le _) (Nat.le_of_ble_eq_true rfl)) rfl ?_
  refine g_aload_n (j := 0) dX5_multiply_87 rfl rfl ?_
  refine g_aload_n (j := 1) dX5_multiply_88 rfl rfl ?_
  obtain ⟨v33, ev33, hf⟩ := ob hf
  refine g_getFN dX5_multiply_89 ev33 t_82 hin5 hc5 (by decide) rfl ?_
  refine g_aload_n (j := 0) dX5_multiply_92 rfl rfl ?_
  obtain ⟨v34, ev34, hf⟩ := ob hf
  refine g_getF dX5_multiply_93 ev34 t_165 hin9 hc9 (by decide) rfl ?_
  refine g_aload_n (j := 0) dX5_multiply_96 rfl rfl ?_
  obtain ⟨v35, ev35, hf⟩ := ob hf
  refine g_getF dX5_multiply_97 ev35 t_166 hin9 hc9 (by decide) rfl ?_
  refine g_aload_n (j := 0) dX5_multiply_100 rfl rfl ?_
  obtain ⟨v36, ev36, hf⟩ := ob hf
  refine g_getF dX5_multiply_101 ev36 t_161 hin9 hc9 (by decide) rfl ?_
  obtain ⟨_, h39, hf⟩ := ob hf
  obtain ⟨σ37, v38, eσ37, hf⟩ := cb_el hf
  refine g_callV_v dX5_multiply_104 (wX5_divide _ eσ37) (okX5_divide _ (by decide) (by decide)) (ckK_el h39) hc9 t_929 t_931 s_X5_divide rfl (Nat.le_trans (cat_le _) (Nat.le_of_ble_eq_true rfl)) rfl ?_
  refine g_aload_n (j := 0) dX5_multiply_107 rfl rfl ?_
  refine g_aload_n (j := 2) dX5_multiply_108 rfl rfl ?_
  obtain ⟨v40, ev40, hf⟩ := ob hf
  refine g_getFN dX5_multiply_109 ev40 t_82 hin5 hc5 (by decide) rfl ?_
  refine g_aload_n (j := 0) dX5_multiply_112 rfl rfl ?_
  obtain ⟨v41, ev41, hf⟩ := ob hf
  refine g_getF dX5_multiply_113 ev41 t_164 hin9 hc9 (by decide) rfl ?_
  refine g_aload_n (j := 0) dX5_multiply_116 rfl rfl ?_
  obtain ⟨v42, ev42, hf⟩ := ob hf
  refine g_getF dX5_multiply_117 ev42 t_167 hin9 hc9 (by decide) rfl ?_
  refine g_aload_n (j := 0) dX5_multiply_120 rfl rfl ?_
  obtain ⟨v43, ev43, hf⟩ := ob hf
  refine g_getF dX5_multiply_121 ev43 t_161 hin9 hc9 (by decide) rfl ?_
  obtain ⟨_, h46, hf⟩ := ob hf
  obtain ⟨σ44, v45, eσ44, hf⟩ := cb_el hf
  refine g_callV_v dX5_multiply_124 (wX5_divide _ eσ44) (okX5_divide _ (by decide) (by decide)) (ckK_el h46) hc9 t_929 t_931 s_X5_divide rfl (Nat.le_trans (cat_le _) (Nat.le_of_ble_eq_true rfl)) rfl ?_
  refine g_aload_n (j := 3) dX5_multiply_127 rfl rfl ?_
  obtain ⟨v47, ev47, hf⟩ := ob hf
  refine g_getFN dX5_multiply_128 ev47 t_82 hin5 hc5 (by decide) rfl ?_
  refine g_aload_n (j := 0) dX5_multiply_131 rfl rfl ?_
  obtain ⟨v48, ev48, hf⟩ := ob hf
  refine g_getF dX5_multiply_132 ev48 t_166 hin9 hc9 (by decide) rfl ?_
  refine g_aload_n (j := 0) dX5_multiply_135 rfl rfl ?_
  obtain ⟨v49, ev49, hf⟩ := ob hf
  refine g_getF dX5_multiply_136 ev49 t_167 hin9 hc9 (by decide) rfl ?_
  obtain ⟨_, h52, hf⟩ := ob hf
  obtain ⟨σ50, v51, eσ50, hf⟩ := cb_el hf
  refine g_callVN_v dX5_multiply_139 (wX3_setProduct _ eσ50) (okX3_setProduct _ (by decide) (by decide)) (ckK_el h52) hc7 t_1057 t_1059 s_X3_setProduct rfl (Nat.le_trans (cat_le _) (Nat.le_of_ble_eq_true rfl)) rfl ?_
  refine g_aload_n (j := 3) dX5_multiply_142 rfl rfl ?_
  refine g_aload_n (j := 1) dX5_multiply_143 rfl rfl ?_
  obtain ⟨v53, ev53, hf⟩ := ob hf
  refine g_getIN dX5_multiply_144 ev53 t_73 hin5 hc5 (by decide) rfl ?_
  refine g_aload_n (j := 2) dX5_multiply_147 rfl rfl ?_
  obtain ⟨v54, ev54, hf⟩ := ob hf
  refine g_getIN dX5_multiply_148 ev54 t_73 hin5 hc5 (by decide) rfl ?_
  refine g_imul dX5_multiply_151 ?_
  obtain ⟨_, h57, hf⟩ := ob hf
  obtain ⟨σ55, v56, eσ55, hf⟩ := cb_el hf
  refine g_callVN_v dX5_multiply_152 (wX1_setSign _ eσ55) (okX1_setSign _ (by decide) (by decide)) (ckK_el h57) hc5 t_1026 t_1028 s_X1_setSign rfl (Nat.le_trans (cat_le _) (Nat.le_of_ble_eq_true rfl)) rfl ?_
  exact g_vret dX5_multiply_155 rfl hX2 hX1 hf

theorem okX5_multiply (M : Mt) (h1 : 5 + 1 ≤ M.2.2.2.2.1) (h2 : 8 + (4 + 11) + 227 ≤ M.2.2.2.2.2.1) : CallOk M MtX5_multiply yX5_multiply 3 := ⟨t_1161, h1, h2, ⟨by decide, by decide⟩, by decide +kernel, t_9⟩
abbrev MtX5_inverse : Mt := (cX5_inverse, 2, "ExactlySaid$Reckoner", (Option.some (Jvm.ClassFile.FieldType.object "ExactlySaid$Fraction")), 2, 106, false)
set_option maxRecDepth 100000 in
set_option maxHeartbeats 4000000 in
theorem wX5_inverse (l : Launch) {σ σf : St} {x0 : Nat} {x1 : Nat} {r : Nat} (hf : fX5_inverse σ x0 x1 = some (σf, r)) : Con MtX5_inverse yX5_inverse l σ [rv x0, rv x1] σf (some (rv r)) := by
  refine Con.of (by decide +kernel) rfl (fun h => absurd (show false = true from h) (by decide)) (by simp only [sl_n, sl_r, sl_i, sl_l]; exact Nat.le_of_ble_eq_true rfl) ?_
  rw [show lv_args 0 [rv x0, rv x1] = [(0, rv x0), (1, rv x1)] by simp only [la_n, la_r, la_i, la_l] <;> rfl]
  have hX1 : ((l, σ, σf, .inl (some (rv r))) : Xt).2.2.1 = σf := rfl
  have hX2 : ((l, σ, σf, .inl (some (rv r))) : Xt).2.2.2 = .inl (some (rv r)) := rfl
  unfold fX5_inverse at hf
  refine g_aload_n (j := 0) dX5_inverse_0 rfl rfl ?_
  obtain ⟨v1, ev1, hf⟩ := ob hf
  refine g_getF dX5_inverse_1 ev1 t_172 hin9 hc9 (by decide) rfl ?_
  obtain ⟨v2, ev2, hf⟩ := ob hf
  refine g_getFN dX5_inverse_4 ev2 t_77 hin5 hc5 (by decide) rfl ?_
  refine g_aload_n (j := 1) dX5_inverse_7 rfl rfl ?_
  obtain ⟨v3, ev3, hf⟩ := ob hf
  refine g_getFN dX5_inverse_8 ev3 t_82 hin5 hc5 (by decide) rfl ?_
  obtain ⟨_, h6, hf⟩ := ob hf
  obtain ⟨σ4, v5, eσ4, hf⟩ := cb_el hf
  refine g_callVN_v dX5_inverse_11 (wX3_setTo _ eσ4) (okX3_setTo _ (by decide) (by decide)) (ckK_el h6) hc7 t_863 t_865 s_X3_setTo rfl (Nat.le_trans (cat_le _) (Nat.le_of_ble_eq_true rfl)) rfl ?_
  refine g_aload_n (j := 0) dX5_inverse_14 rfl rfl ?_
  obtain ⟨v7, ev7, hf⟩ := ob hf
  refine g_getF dX5_inverse_15 ev7 t_172 hin9 hc9 (by decide) rfl ?_
  obtain ⟨v8, ev8, hf⟩ := ob hf
  refine g_getFN dX5_inverse_18 ev8 t_82 hin5 hc5 (by decide) rfl ?_
  refine g_aload_n (j := 1) dX5_inverse_21 rfl rfl ?_
  obtain ⟨v9, ev9, hf⟩ := ob hf
  refine g_getFN dX5_inverse_22 ev9 t_77 hin5 hc5 (by decide) rfl ?_
  obtain ⟨_, h12, hf⟩ := ob hf
  obtain ⟨σ10, v11, eσ10, hf⟩ := cb_el hf
  refine g_callVN_v dX5_inverse_25 (wX3_setTo _ eσ10) (okX3_setTo _ (by decide) (by decide)) (ckK_el h12) hc7 t_863 t_865 s_X3_setTo rfl (Nat.le_trans (cat_le _) (Nat.le_of_ble_eq_true rfl)) rfl ?_
  refine g_aload_n (j := 0) dX5_inverse_28 rfl rfl ?_
  obtain ⟨v13, ev13, hf⟩ := ob hf
  refine g_getF dX5_inverse_29 ev13 t_172 hin9 hc9 (by decide) rfl ?_
  refine g_aload_n (j := 1) dX5_inverse_32 rfl rfl ?_
  obtain ⟨v14, ev14, hf⟩ := ob hf
  refine g_getIN dX5_inverse_33 ev14 t_73 hin5 hc5 (by decide) rfl ?_
  obtain ⟨σ15, eσ15, hf⟩ := ob hf
  refine g_putI dX5_inverse_36 eσ15 (Or.inr ⟨_, t_73⟩) hin5 hc5 (by decide) hty5 hnm5 (Or.inl rfl) rfl rfl rfl ?_
  refine g_aload_n (j := 0) dX5_inverse_39 rfl rfl ?_
  obtain ⟨v16, ev16, hf⟩ := ob hf
  refine g_getF dX5_inverse_40 ev16 t_172 hin9 hc9 (by decide) rfl ?_
  exact g_aret dX5_inverse_43 rfl rfl hX2 hX1 hf

theorem okX5_inverse (M : Mt) (h1 : 2 + 1 ≤ M.2.2.2.2.1) (h2 : 8 + (2 + 11) + 106 ≤ M.2.2.2.2.2.1) : CallOk M MtX5_inverse yX5_inverse 1 := ⟨t_1165, h1, h2, ⟨by decide, by decide⟩, by decide +kernel, t_9⟩
abbrev MtX5_remain : Mt := (cX5_remain, 4, "ExactlySaid$Reckoner", none, 4, 195, false)
set_option maxRecDepth 100000 in
set_option maxHeartbeats 4000000 in
theorem bX5_remain_94 {X : Xt} {σf : St} {r : Unit} (hX1 : X.2.2.1 = σf) (hX2 : X.2.2.2 = .inl (none)) {σ : St} {x1 : Nat} {x2 : Nat} {x3 : Nat} (hf : fX5_remain_94 σ x1 x2 x3 = some (σf, r)) : G MtX5_remain X σ 94 [(1, rv x1), (2, rv x2), (3, rv x3)] [] := by
  unfold fX5_remain_94 at hf
  refine g_aload_n (j := 2) dX5_remain_94 rfl rfl ?_
  obtain ⟨v1, ev1, hf⟩ := ob hf
  refine g_getFN dX5_remain_95 ev1 t_82 hin5 hc5 (by decide) rfl ?_
  refine g_aload_n (j := 0) dX5_remain_98 rfl rfl ?_
  obtain ⟨v2, ev2, hf⟩ := ob hf
  refine g_getFN dX5_remain_99 ev2 t_82 hin5 hc5 (by decide) rfl ?_
  refine g_aload_n (j := 1) dX5_remain_102 rfl rfl ?_
  obtain ⟨v3, ev3, hf⟩ := ob hf
  refine g_getFN dX5_remain_103 ev3 t_82 hin5 hc5 (by decide) rfl ?_
  obtain ⟨_, h6, hf⟩ := ob hf
  obtain ⟨σ4, v5, eσ4, hf⟩ := cb_el hf
  refine g_callVN_v dX5_remain_106 (wX3_setProduct _ eσ4) (okX3_setProduct _ (by decide) (by decide)) (ckK_el h6) hc7 t_1057 t_1059 s_X3_setProduct rfl (Nat.le_trans (cat_le _) (Nat.le_of_ble_eq_true rfl)) rfl ?_
  refine g_aload_n (j := 2) dX5_remain_109 rfl rfl ?_
  refine g_aload_n (j := 1) dX5_remain_110 rfl rfl ?_
  obtain ⟨v7, ev7, hf⟩ := ob hf
  refine g_getIN dX5_remain_111 ev7 t_73 hin5 hc5 (by decide) rfl ?_
  obtain ⟨_, h10, hf⟩ := ob hf
  obtain ⟨σ8, v9, eσ8, hf⟩ := cb_el hf
  refine g_callVN_v dX5_remain_114 (wX1_setSign _ eσ8) (okX1_setSign _ (by decide) (by decide)) (ckK_el h10) hc5 t_1026 t_1028 s_X1_setSign rfl (Nat.le_trans (cat_le _) (Nat.le_of_ble_eq_true rfl)) rfl ?_
  exact g_vret dX5_remain_117 rfl hX2 hX1 hf

set_option maxRecDepth 100000 in
set_option maxHeartbeats 4000000 in
theorem wX5_remain (l : Launch) {σ σf : St} {x0 : Nat} {x1 : Nat} {x2 : Nat} {x3 : Nat} {r : Unit} (hf : fX5_remain σ x0 x1 x2 x3 = some (σf, r)) : Con MtX5_remain yX5_remain l σ [rv x0, rv x1, rv x2, rv x3] σf (none) := by
  refine Con.of (by decide +kernel) rfl (fun h => absurd (show false = true from h) (by decide)) (by simp only [sl_n, sl_r, sl_i, sl_l]; exact Nat.le_of_ble_eq_true rfl) ?_
  rw [show lv_args 0 [rv x0, rv x1, rv x2, rv x3] = [(0, rv x0), (1, rv x1), (2, rv x2), (3, rv x3)] by simp only [la_n, la_r, la_i, la_l] <;> rfl]
  have hX1 : ((l, σ, σf, .inl (none)) : Xt).2.2.1 = σf := rfl
  have hX2 : ((l, σ, σf, .inl (none)) : Xt).2.2.2 = .inl (none) := rfl
  unfold fX5_remain at hf
  refine g_aload_n (j := 0) dX5_remain_0 rfl rfl ?_
  obtain ⟨v1, ev1, hf⟩ := ob hf
  refine g_getF dX5_remain_1 ev1 t_168 hin9 hc9 (by decide) rfl ?_
  refine g_aload_n (j := 1) dX5_remain_4 rfl rfl ?_
  obtain ⟨v2, ev2, hf⟩ := ob hf
  refine g_getFN dX5_remain_5 ev2 t_77 hin5 hc5 (by decide) rfl ?_
  refine g_aload_n (j := 2) dX5_remain_8 rfl rfl ?_
  obtain ⟨v3, ev3, hf⟩ := ob hf
  refine g_getFN dX5_remain_9 ev3 t_82 hin5 hc5 (by decide) rfl ?_
  obtain ⟨_, h6, hf⟩ := ob hf
  obtain ⟨σ4, v5, eσ4, hf⟩ := cb_el hf
  refine g_callVN_v dX5_remain_12 (wX3_setProduct _ eσ4) (okX3_setProduct _ (by decide) (by decide)) (ckK_el h6) hc7 t_1057 t_1059 s_X3_setProduct rfl (Nat.le_trans (cat_le _) (Nat.le_of_ble_eq_true rfl)) rfl ?_
  refine g_aload_n (j := 0) dX5_remain_15 rfl rfl ?_
  obtain ⟨v7, ev7, hf⟩ := ob hf
  refine g_getF dX5_remain_16 ev7 t_169 hin9 hc9 (by decide) rfl ?_
  refine g_aload_n (j := 2) dX5_remain_19 rfl rfl ?_
  obtain ⟨v8, ev8, hf⟩ := ob hf
  refine g_getFN dX5_remain_20 ev8 t_77 hin5 hc5 (by decide) rfl ?_
  refine g_aload_n (j := 1) dX5_remain_23 rfl rfl ?_
  obtain ⟨v9, ev9, hf⟩ := ob hf
  refine g_getFN dX5_remain_24 ev9 t_82 hin5 hc5 (by decide) rfl ?_
  obtain ⟨_, h12, hf⟩ := ob hf
  obtain ⟨σ10, v11, eσ10, hf⟩ := cb_el hf
  refine g_callVN_v dX5_remain_27 (wX3_setProduct _ eσ10) (okX3_setProduct _ (by decide) (by decide)) (ckK_el h12) hc7 t_1057 t_1059 s_X3_setProduct rfl (Nat.le_trans (cat_le _) (Nat.le_of_ble_eq_true rfl)) rfl ?_
  refine g_aload_n (j := 0) dX5_remain_30 rfl rfl ?_
  refine g_aload_n (j := 0) dX5_remain_31 rfl rfl ?_
  obtain ⟨v13, ev13, hf⟩ := ob hf
  refine g_getF dX5_remain_32 ev13 t_168 hin9 hc9 (by decide) rfl ?_
  refine g_aload_n (j := 0) dX5_remain_35 rfl rfl ?_
  obtain ⟨v14, ev14, hf⟩ := ob hf
  refine g_getF dX5_remain_36 ev14 t_169 hin9 hc9 (by decide) rfl ?_
  refine g_aload_n (j := 0) dX5_remain_39 rfl rfl ?_
  obtain ⟨v15, ev15, hf⟩ := ob hf
  refine g_getF dX5_remain_40 ev15 t_166 hin9 hc9 (by decide) rfl ?_
  refine g_aload_n (j := 3) dX5_remain_43 rfl rfl ?_
  obtain ⟨v16, ev16, hf⟩ := ob hf
  refine g_getFN dX5_remain_44 ev16 t_77 hin5 hc5 (by decide) rfl ?_
  obtain ⟨_, h19, hf⟩ := ob hf
  obtain ⟨σ17, v18, eσ17, hf⟩ := cb_el hf
  refine g_callV_v dX5_remain_47 (wX5_divide _ eσ17) (okX5_divide _ (by decide) (by decide)) (ckK_el h19) hc9 t_929 t_931 s_X5_divide rfl (Nat.le_trans (cat_le _) (Nat.le_of_ble_eq_true rfl)) rfl ?_
  refine g_aload_n (j := 1) dX5_remain_50 rfl rfl ?_
  obtain ⟨v20, ev20, hf⟩ := ob hf
  refine g_getIN dX5_remain_51 ev20 t_73 hin5 hc5 (by decide) rfl ?_
  refine g_aload_n (j := 2) dX5_remain_54 rfl rfl ?_
  obtain ⟨v21, ev21, hf⟩ := ob hf
  refine g_getIN dX5_remain_55 ev21 t_73 hin5 hc5 (by decide) rfl ?_
  refine g_imul dX5_remain_58 ?_
  refine g_if_ge (tgt := 94) dX5_remain_59 (by decide) (fun c22 => ?_) (fun c22 => ?_)
  · rw [if_pos c22] at hf
    refine g_sub (L' := [(1, rv x1), (2, rv x2), (3, rv x3)]) [1, 2, 3] rfl ?_
    exact bX5_remain_94 hX1 hX2 hf
  · rw [if_neg c22] at hf
    refine g_aload_n (j := 3) dX5_remain_62 rfl rfl ?_
    obtain ⟨v23, ev23, hf⟩ := ob hf
    refine g_getFN dX5_remain_63 ev23 t_77 hin5 hc5 (by decide) rfl ?_
    obtain ⟨_, h26, hf⟩ := ob hf
    obtain ⟨σ24, v25, eσ24, hf⟩ := cb_el hf
    refine g_callVN_i dX5_remain_66 (wX3_isZero _ eσ24) (okX3_isZero _ (by decide) (by decide)) (ckK_el h26) hc7 t_1022 t_1024 s_X3_isZero rfl (Nat.le_trans (cat_le _) (Nat.le_of_ble_eq_true rfl)) rfl ?_
    refine g_if_ne (tgt := 94) dX5_remain_69 (by decide) (fun c27 => ?_) (fun c27 => ?_)
    · rw [if_neg c27] at hf
      refine g_sub (L' := [(1, rv x1), (2, rv x2), (3, rv x3)]) [1, 2, 3] rfl ?_
      exact bX5_remain_94 hX1 hX2 hf
    · rw [if_pos c27] at hf
      refine g_aload_n (j := 0) dX5_remain_72 rfl rfl ?_
      obtain ⟨v28, ev28, hf⟩ := ob hf
      refine g_getF dX5_remain_73 ev28 t_169 hin9 hc9 (by decide) rfl ?_
      refine g_aload_n (j := 3) dX5_remain_76 rfl rfl ?_
      obtain ⟨v29, ev29, hf⟩ := ob hf
      refine g_getFN dX5_remain_77 ev29 t_77 hin5 hc5 (by decide) rfl ?_
      obtain ⟨_, h32, hf⟩ := ob hf
      obtain ⟨σ30, v31, eσ30, hf⟩ := cb_el hf
      refine g_callVN_v dX5_remain_80 (wX3_minus _ eσ30) (okX3_minus _ (by decide) (by decide)) (ckK_el h32) hc7 t_912 t_914 s_X3_minus rfl (Nat.le_trans (cat_le _) (Nat.le_of_ble_eq_true rfl)) rfl ?_
      refine g_aload_n (j := 3) dX5_remain_83 rfl rfl ?_
      obtain ⟨v33, ev33, hf⟩ := ob hf
      refine g_getFN dX5_remain_84 ev33 t_77 hin5 hc5 (by decide) rfl ?_
      refine g_aload_n (j := 0) dX5_remain_87 rfl rfl ?_
      obtain ⟨v34, ev34, hf⟩ := ob hf
      refine g_getF dX5_remain_88 ev34 t_169 hin9 hc9 (by decide) rfl ?_
      obtain ⟨_, h37, hf⟩ := ob hf
      obtain ⟨σ35, v36, eσ35, hf⟩ := cb_el hf
      refine g_callVN_v dX5_remain_91 (wX3_setTo _ eσ35) (okX3_setTo _ (by decide) (by decide)) (ckK_el h37) hc7 t_863 t_865 s_X3_setTo rfl (Nat.le_trans (cat_le _) (Nat.le_of_ble_eq_true rfl)) rfl ?_
      refine g_sub (L' := [(1, rv x1), (2, rv x2), (3, rv x3)]) [1, 2, 3] rfl ?_
      exact bX5_remain_94 hX1 hX2 hf

theorem okX5_remain (M : Mt) (h1 : 4 + 1 ≤ M.2.2.2.2.1) (h2 : 8 + (4 + 11) + 195 ≤ M.2.2.2.2.2.1) : CallOk M MtX5_remain yX5_remain 3 := ⟨t_1169, h1, h2, ⟨by decide, by decide⟩, by decide +kernel, t_9⟩
abbrev MtX5_multiplyOften : Mt := (cX5_multiplyOften, 5, "ExactlySaid$Reckoner", none, 3, 131, false)
set_option maxRecDepth 100000 in
set_option maxHeartbeats 4000000 in
theorem bX5_multiplyOften_8 {X : Xt} {σf : St} {r : Unit} (hX1 : X.2.2.1 = σf) (hX2 : X.2.2.2 = .inl (none)) : ∀ (n : Nat) (σ : St) (x0 : Nat) (x1 : Nat) (x2 : Int32) (x3 : Nat) (x4 : Int32), fX5_multiplyOften_8 n σ x0 x1 x2 x3 x4 = some (σf, r) → G MtX5_multiplyOften X σ 8 [(0, rv x0), (1, rv x1), (2, .int x2), (3, rv x3), (4, .int x4)] [] := by
  intro n
  induction n with
  | zero => intro σ x0 x1 x2 x3 x4 hf; cases hf
  | succ n ih =>
    intro σ x0 x1 x2 x3 x4 hf
    rw [fX5_multiplyOften_8] at hf
    refine g_iload (j := 4) dX5_multiplyOften_8 rfl ?_
    refine g_iload_n (j := 2) dX5_multiplyOften_10 rfl rfl ?_
    refine g_icmp_ge (tgt := 44) dX5_multiplyOften_11 (by decide) (fun c1 => ?_) (fun c1 => ?_)
    · rw [if_pos c1] at hf
      exact g_vret dX5_multiplyOften_44 rfl hX2 hX1 hf
    · rw [if_neg c1] at hf
      refine g_aload_n (j := 3) dX5_multiplyOften_14 rfl rfl ?_
      obtain ⟨_, h4, hf⟩ := ob hf
      obtain ⟨σ2, v3, eσ2, hf⟩ := cb_el hf
      refine g_callVN_i dX5_multiplyOften_15 (wX3_fits _ eσ2) (okX3_fits _ (by decide) (by decide)) (ckK_el h4) hc7 t_1185 t_1076 s_X3_fits rfl (Nat.le_trans (cat_le _) (Nat.le_of_ble_eq_true rfl)) rfl ?_
      refine g_if_eq (tgt := 44) dX5_multiplyOften_18 (by decide) (fun c5 => ?_) (fun c5 => ?_)
      · rw [if_pos c5] at hf
        exact g_vret dX5_multiplyOften_44 rfl hX2 hX1 hf
      · rw [if_neg c5] at hf
        refine g_aload_n (j := 0) dX5_multiplyOften_21 rfl rfl ?_
        obtain ⟨v6, ev6, hf⟩ := ob hf
        refine g_getF dX5_multiplyOften_22 ev6 t_168 hin9 hc9 (by decide) rfl ?_
        refine g_aload_n (j := 3) dX5_multiplyOften_25 rfl rfl ?_
        refine g_aload_n (j := 1) dX5_multiplyOften_26 rfl rfl ?_
        obtain ⟨_, h9, hf⟩ := ob hf
        obtain ⟨σ7, v8, eσ7, hf⟩ := cb_el hf
        refine g_callVN_v dX5_multiplyOften_27 (wX3_setProduct _ eσ7) (okX3_setProduct _ (by decide) (by decide)) (ckK_el h9) hc7 t_1057 t_1059 s_X3_setProduct rfl (Nat.le_trans (cat_le _) (Nat.le_of_ble_eq_true rfl)) rfl ?_
        refine g_aload_n (j := 3) dX5_multiplyOften_30 rfl rfl ?_
        refine g_aload_n (j := 0) dX5_multiplyOften_31 rfl rfl ?_
        obtain ⟨v10, ev10, hf⟩ := ob hf
        refine g_getF dX5_multiplyOften_32 ev10 t_168 hin9 hc9 (by decide) rfl ?_
        obtain ⟨_, h13, hf⟩ := ob hf
        obtain ⟨σ11, v12, eσ11, hf⟩ := cb_el hf
        refine g_callVN_v dX5_multiplyOften_35 (wX3_setTo _ eσ11) (okX3_setTo _ (by decide) (by decide)) (ckK_el h13) hc7 t_863 t_865 s_X3_setTo rfl (Nat.le_trans (cat_le _) (Nat.le_of_ble_eq_true rfl)) rfl ?_
        obtain ⟨v14, ev14, hf⟩ := nm_el hf
        refine g_iinc (L' := [(4, .int v14), (0, rv x0), (1, rv x1), (2, .int x2), (3, rv x3)]) (j := 4) (v := v14) dX5_multiplyOften_38 rfl (by rw [ev14]; rfl) (Nat.le_of_ble_eq_true rfl) (by simp [rv_cat]) ?_
        refine g_goto (tgt := 8) dX5_multiplyOften_41 (by decide) ?_
        refine g_sub (L' := [(0, rv x0), (1, rv x1), (2, .int x2), (3, rv x3), (4, .int v14)]) [1, 2, 3, 4, 0] rfl ?_
        exact ih _ _ _ _ _ _ hf

set_option maxRecDepth 100000 in
set_option maxHeartbeats 4000000 in
theorem wX5_multiplyOften (l : Launch) {σ σf : St} {x0 : Nat} {x1 : Nat} {x2 : Int32} {x3 : Nat} {r : Unit} (hf : fX5_multiplyOften σ x0 x1 x2 x3 = some (σf, r)) : Con MtX5_multiplyOften yX5_multiplyOften l σ [rv x0, rv x1, .int x2, rv x3] σf (none) := by
  refine Con.of (by decide +kernel) rfl (fun h => absurd (show false = true from h) (by decide)) (by simp only [sl_n, sl_r, sl_i, sl_l]; exact Nat.le_of_ble_eq_true rfl) ?_
  rw [show lv_args 0 [rv x0, rv x1, .int x2, rv x3] = [(0, rv x0), (1, rv x1), (2, .int x2), (3, rv x3)] by simp only [la_n, la_r, la_i, la_l] <;> rfl]
  have hX1 : ((l, σ, σf, .inl (none)) : Xt).2.2.1 = σf := rfl
  have hX2 : ((l, σ, σf, .inl (none)) : Xt).2.2.2 = .inl (none) := rfl
  unfold fX5_multiplyOften at hf
  refine g_aload_n (j := 3) dX5_multiplyOften_0 rfl rfl ?_
  refine g_lconst (v := 1) dX5_multiplyOften_1 (by decide) ?_
  obtain ⟨_, h3, hf⟩ := ob hf
  obtain ⟨σ1, v2, eσ1, hf⟩ := cb_el hf
  refine g_callVN_v dX5_multiplyOften_2 (wX3_setSmall _ eσ1) (okX3_setSmall _ (by decide) (by decide)) (ckK_el h3) hc7 t_895 t_69 s_X3_setSmall rfl (Nat.le_trans (cat_le _) (Nat.le_of_ble_eq_true rfl)) rfl ?_
  refine g_iconst (v := 0) dX5_multiplyOften_5 (by decide) ?_
  refine g_istore (i := 4) (L' := [(4, .int 0), (0, rv x0), (1, rv x1), (2, .int x2), (3, rv x3)]) dX5_multiplyOften_6 (Nat.le_of_ble_eq_true rfl) (by simp [rv_cat]) ?_
  refine g_sub (L' := [(0, rv x0), (1, rv x1), (2, .int x2), (3, rv x3), (4, .int 0)]) [1, 2, 3, 4, 0] rfl ?_
  exact bX5_multiplyOften_8 hX1 hX2 FU _ _ _ _ _ _ hf

theorem okX5_multiplyOften (M : Mt) (h1 : 3 + 1 ≤ M.2.2.2.2.1) (h2 : 8 + (5 + 11) + 131 ≤ M.2.2.2.2.2.1) : CallOk M MtX5_multiplyOften yX5_multiplyOften 3 := ⟨t_1184, h1, h2, ⟨by decide, by decide⟩, by decide +kernel, t_9⟩
abbrev MtX5_power : Mt := (cX5_power, 5, "ExactlySaid$Reckoner", none, 4, 155, false)
set_option maxRecDepth 100000 in
set_option maxHeartbeats 4000000 in
theorem bX5_power_76 {X : Xt} {σf : St} {r : Unit} (hX1 : X.2.2.1 = σf) (hX2 : X.2.2.2 = .inl (none)) {σ : St} {y0 : Nat} {y1 : Int32} (hf : fX5_power_76 σ y0 y1 = some (σf, r)) : G MtX5_power X σ 76 [] [.int y1, rv y0] := by
  unfold fX5_power_76 at hf
  obtain ⟨_, h3, hf⟩ := ob hf
  obtain ⟨σ1, v2, eσ1, hf⟩ := cb_el hf
  refine g_callVN_v dX5_power_76 (wX1_setSign _ eσ1) (okX1_setSign _ (by decide) (by decide)) (ckK_el h3) hc5 t_1026 t_1028 s_X1_setSign rfl (Nat.le_trans (cat_le _) (Nat.le_of_ble_eq_true rfl)) rfl ?_
  exact g_vret dX5_power_79 rfl hX2 hX1 hf

set_option maxRecDepth 100000 in
set_option maxHeartbeats 4000000 in
theorem bX5_power_75 {X : Xt} {σf : St} {r : Unit} (hX1 : X.2.2.1 = σf) (hX2 : X.2.2.2 = .inl (none)) {σ : St} {y0 : Nat} (hf : fX5_power_75 σ y0 = some (σf, r)) : G MtX5_power X σ 75 [] [rv y0] := by
  unfold fX5_power_75 at hf
  refine g_iconst (v := 1) dX5_power_75 (by decide) ?_
  exact bX5_power_76 hX1 hX2 hf

set_option maxRecDepth 100000 in
set_option maxHeartbeats 4000000 in
theorem bX5_power_47 {X : Xt} {σf : St} {r : Unit} (hX1 : X.2.2.1 = σf) (hX2 : X.2.2.2 = .inl (none)) {σ : St} {x1 : Nat} {x3 : Nat} {x4 : Int32} {y0 : Nat} {y1 : Nat} (hf : fX5_power_47 σ x1 x3 x4 y0 y1 = some (σf, r)) : G MtX5_power X σ 47 [(1, rv x1), (3, rv x3), (4, .int x4)] [rv y1, rv y0] := by
  unfold fX5_power_47 at hf
  refine g_iload (j := 2) dX5_power_47 rfl ?_
  refine g_aload_n (j := 1) dX5_power_49 rfl rfl ?_
  obtain ⟨v1, ev1, hf⟩ := ob hf
  refine g_getFN dX5_power_50 ev1 t_82 hin5 hc5 (by decide) rfl ?_
  obtain ⟨_, h4, hf⟩ := ob hf
  obtain ⟨σ2, v3, eσ2, hf⟩ := cb_el hf
  refine g_callV_v dX5_power_53 (wX5_multiplyOften _ eσ2) (okX5_multiplyOften _ (by decide) (by decide)) (ckK_el h4) hc9 t_1181 t_1183 s_X5_multiplyOften rfl (Nat.le_trans (cat_le _) (Nat.le_of_ble_eq_true rfl)) rfl ?_
  refine g_aload_n (j := 1) dX5_power_56 rfl rfl ?_
  refine g_aload_n (j := 0) dX5_power_57 rfl rfl ?_
  obtain ⟨v5, ev5, hf⟩ := ob hf
  refine g_getIN dX5_power_58 ev5 t_73 hin5 hc5 (by decide) rfl ?_
  refine g_if_ge (tgt := 75) dX5_power_61 (by decide) (fun c6 => ?_) (fun c6 => ?_)
  · rw [if_pos c6] at hf
    refine g_sub (L' := []) [] rfl ?_
    exact bX5_power_75 hX1 hX2 hf
  · rw [if_neg c6] at hf
    refine g_iload (j := 2) dX5_power_64 rfl ?_
    refine g_iconst (v := 2) dX5_power_66 (by decide) ?_
    refine g_irem dX5_power_67 (by decide) ?_
    refine g_if_eq (tgt := 75) dX5_power_68 (by decide) (fun c7 => ?_) (fun c7 => ?_)
    · rw [if_pos c7] at hf
      refine g_sub (L' := []) [] rfl ?_
      exact bX5_power_75 hX1 hX2 hf
    · rw [if_neg c7] at hf
      refine g_iconst (v := (-1)) dX5_power_71 (by decide) ?_
      refine g_goto (tgt := 76) dX5_power_72 (by decide) ?_
      refine g_sub (L' := []) [] rfl ?_
      exact bX5_power_76 hX1 hX2 hf

set_option maxRecDepth 100000 in
set_option maxHeartbeats 4000000 in
theorem bX5_power_22 {X : Xt} {σf : St} {r : Unit} (hX1 : X.2.2.1 = σf) (hX2 : X.2.2.2 = .inl (none)) {σ : St} {x0 : Nat} {x1 : Nat} {x2 : Int32} {x3 : Nat} {x4 : Int32} {y0 : Nat} {y1 : Nat} (hf : fX5_power_22 σ x0 x1 x2 x3 x4 y0 y1 = some (σf, r)) : G MtX5_power X σ 22 [(0, rv x0), (1, rv x1), (2, .int x2), (3, rv x3), (4, .int x4)] [rv y1, rv y0] := by
  unfold fX5_power_22 at hf
  refine g_iload (j := 4) dX5_power_22 rfl ?_
  refine g_aload_n (j := 3) dX5_power_24 rfl rfl ?_
  obtain ⟨v1, ev1, hf⟩ := ob hf
  refine g_getFN dX5_power_25 ev1 t_77 hin5 hc5 (by decide) rfl ?_
  obtain ⟨_, h4, hf⟩ := ob hf
  obtain ⟨σ2, v3, eσ2, hf⟩ := cb_el hf
  refine g_callV_v dX5_power_28 (wX5_multiplyOften _ eσ2) (okX5_multiplyOften _ (by decide) (by decide)) (ckK_el h4) hc9 t_1181 t_1183 s_X5_multiplyOften rfl (Nat.le_trans (cat_le _) (Nat.le_of_ble_eq_true rfl)) rfl ?_
  refine g_aload_n (j := 0) dX5_power_31 rfl rfl ?_
  refine g_iload_n (j := 2) dX5_power_32 rfl rfl ?_
  refine g_if_ge (tgt := 43) dX5_power_33 (by decide) (fun c5 => ?_) (fun c5 => ?_)
  · rw [if_pos c5] at hf
    refine g_aload_n (j := 1) dX5_power_43 rfl rfl ?_
    obtain ⟨v6, ev6, hf⟩ := ob hf
    refine g_getFN dX5_power_44 ev6 t_82 hin5 hc5 (by decide) rfl ?_
    refine g_sub (L' := [(1, rv x1), (3, rv x3), (4, .int x4)]) [1, 3, 4] rfl ?_
    exact bX5_power_47 hX1 hX2 hf
  · rw [if_neg c5] at hf
    refine g_aload_n (j := 1) dX5_power_36 rfl rfl ?_
    obtain ⟨v7, ev7, hf⟩ := ob hf
    refine g_getFN dX5_power_37 ev7 t_77 hin5 hc5 (by decide) rfl ?_
    refine g_goto (tgt := 47) dX5_power_40 (by decide) ?_
    refine g_sub (L' := [(1, rv x1), (3, rv x3), (4, .int x4)]) [1, 3, 4] rfl ?_
    exact bX5_power_47 hX1 hX2 hf

set_option maxRecDepth 100000 in
set_option maxHeartbeats 4000000 in
theorem wX5_power (l : Launch) {σ σf : St} {x0 : Nat} {x1 : Nat} {x2 : Int32} {x3 : Nat} {r : Unit} (hf : fX5_power σ x0 x1 x2 x3 = some (σf, r)) : Con MtX5_power yX5_power l σ [rv x0, rv x1, .int x2, rv x3] σf (none) := by
  refine Con.of (by decide +kernel) rfl (fun h => absurd (show false = true from h) (by decide)) (by simp only [sl_n, sl_r, sl_i, sl_l]; exact Nat.le_of_ble_eq_true rfl) ?_
  rw [show lv_args 0 [rv x0, rv x1, .int x2, rv x3] = [(0, rv x0), (1, rv x1), (2, .int x2), (3, rv x3)] by simp only [la_n, la_r, la_i, la_l] <;> rfl]
  have hX1 : ((l, σ, σf, .inl (none)) : Xt).2.2.1 = σf := rfl
  have hX2 : ((l, σ, σf, .inl (none)) : Xt).2.2.2 = .inl (none) := rfl
  unfold fX5_power at hf
  refine g_iload_n (j := 2) dX5_power_0 rfl rfl ?_
  refine g_mabs dX5_power_1 t_1178 t_1179 t_15 t_1180 (by decide) (by decide) (Nat.le_of_ble_eq_true rfl) ?_
  obtain ⟨v1, ev1, hf⟩ := nm_el hf
  refine g_topI ev1 ?_
  refine g_istore (i := 4) (L' := [(4, .int v1), (0, rv x0), (1, rv x1), (2, .int x2), (3, rv x3)]) dX5_power_4 (Nat.le_of_ble_eq_true rfl) (by simp [rv_cat]) ?_
  refine g_aload_n (j := 1) dX5_power_6 rfl rfl ?_
  refine g_iload_n (j := 3) dX5_power_7 rfl rfl ?_
  refine g_if_ge (tgt := 18) dX5_power_8 (by decide) (fun c2 => ?_) (fun c2 => ?_)
  · rw [if_pos c2] at hf
    refine g_aload_n (j := 2) dX5_power_18 rfl rfl ?_
    obtain ⟨v3, ev3, hf⟩ := ob hf
    refine g_getFN dX5_power_19 ev3 t_77 hin5 hc5 (by decide) rfl ?_
    refine g_sub (L' := [(0, rv x0), (1, rv x1), (2, .int x2), (3, rv x3), (4, .int v1)]) [1, 2, 3, 4, 0] rfl ?_
    exact bX5_power_22 hX1 hX2 hf
  · rw [if_neg c2] at hf
    refine g_aload_n (j := 2) dX5_power_11 rfl rfl ?_
    obtain ⟨v4, ev4, hf⟩ := ob hf
    refine g_getFN dX5_power_12 ev4 t_82 hin5 hc5 (by decide) rfl ?_
    refine g_goto (tgt := 22) dX5_power_15 (by decide) ?_
    refine g_sub (L' := [(0, rv x0), (1, rv x1), (2, .int x2), (3, rv x3), (4, .int v1)]) [1, 2, 3, 4, 0] rfl ?_
    exact bX5_power_22 hX1 hX2 hf

theorem okX5_power (M : Mt) (h1 : 4 + 1 ≤ M.2.2.2.2.1) (h2 : 8 + (5 + 11) + 155 ≤ M.2.2.2.2.2.1) : CallOk M MtX5_power yX5_power 3 := ⟨t_1177, h1, h2, ⟨by decide, by decide⟩, by decide +kernel, t_9⟩
abbrev MtX5_factorial : Mt := (cX5_factorial, 5, "ExactlySaid$Reckoner", none, 3, 167, false)
set_option maxRecDepth 100000 in
set_option maxHeartbeats 4000000 in
theorem bX5_factorial_73 {X : Xt} {σf : St} {r : Unit} (hX1 : X.2.2.1 = σf) (hX2 : X.2.2.2 = .inl (none)) {σ : St} {x2 : Nat} (hf : fX5_factorial_73 σ x2 = some (σf, r)) : G MtX5_factorial X σ 73 [(2, rv x2)] [] := by
  unfold fX5_factorial_73 at hf
  refine g_aload_n (j := 0) dX5_factorial_73 rfl rfl ?_
  obtain ⟨v1, ev1, hf⟩ := ob hf
  refine g_getFN dX5_factorial_74 ev1 t_82 hin5 hc5 (by decide) rfl ?_
  refine g_lconst (v := 1) dX5_factorial_77 (by decide) ?_
  obtain ⟨_, h4, hf⟩ := ob hf
  obtain ⟨σ2, v3, eσ2, hf⟩ := cb_el hf
  refine g_callVN_v dX5_factorial_78 (wX3_setSmall _ eσ2) (okX3_setSmall _ (by decide) (by decide)) (ckK_el h4) hc7 t_895 t_69 s_X3_setSmall rfl (Nat.le_trans (cat_le _) (Nat.le_of_ble_eq_true rfl)) rfl ?_
  refine g_aload_n (j := 0) dX5_factorial_81 rfl rfl ?_
  refine g_iconst (v := 1) dX5_factorial_82 (by decide) ?_
  obtain ⟨σ5, eσ5, hf⟩ := ob hf
  refine g_putI dX5_factorial_83 eσ5 (Or.inr ⟨_, t_73⟩) hin5 hc5 (by decide) hty5 hnm5 (Or.inl rfl) rfl rfl rfl ?_
  exact g_vret dX5_factorial_86 rfl hX2 hX1 hf

set_option maxRecDepth 100000 in
set_option maxHeartbeats 4000000 in
theorem bX5_factorial_41 {X : Xt} {σf : St} {r : Unit} (hX1 : X.2.2.1 = σf) (hX2 : X.2.2.2 = .inl (none)) : ∀ (n : Nat) (σ : St) (x2 : Nat) (x3 : Int32) (x4 : Int32), fX5_factorial_41 n σ x2 x3 x4 = some (σf, r) → G MtX5_factorial X σ 41 [(2, rv x2), (3, .int x3), (4, .int x4)] [] := by
  intro n
  induction n with
  | zero => intro σ x2 x3 x4 hf; cases hf
  | succ n ih =>
    intro σ x2 x3 x4 hf
    rw [fX5_factorial_41] at hf
    refine g_iload (j := 2) dX5_factorial_41 rfl ?_
    refine g_iload_n (j := 1) dX5_factorial_43 rfl rfl ?_
    refine g_icmp_gt (tgt := 73) dX5_factorial_44 (by decide) (fun c1 => ?_) (fun c1 => ?_)
    · rw [if_pos c1] at hf
      refine g_sub (L' := [(2, rv x2)]) [0] rfl ?_
      exact bX5_factorial_73 hX1 hX2 hf
    · rw [if_neg c1] at hf
      refine g_aload_n (j := 0) dX5_factorial_47 rfl rfl ?_
      obtain ⟨v2, ev2, hf⟩ := ob hf
      refine g_getFN dX5_factorial_48 ev2 t_77 hin5 hc5 (by decide) rfl ?_
      obtain ⟨_, h5, hf⟩ := ob hf
      obtain ⟨σ3, v4, eσ3, hf⟩ := cb_el hf
      refine g_callVN_i dX5_factorial_51 (wX3_fits _ eσ3) (okX3_fits _ (by decide) (by decide)) (ckK_el h5) hc7 t_1185 t_1076 s_X3_fits rfl (Nat.le_trans (cat_le _) (Nat.le_of_ble_eq_true rfl)) rfl ?_
      refine g_if_eq (tgt := 73) dX5_factorial_54 (by decide) (fun c6 => ?_) (fun c6 => ?_)
      · rw [if_pos c6] at hf
        refine g_sub (L' := [(2, rv x2)]) [0] rfl ?_
        exact bX5_factorial_73 hX1 hX2 hf
      · rw [if_neg c6] at hf
        refine g_aload_n (j := 0) dX5_factorial_57 rfl rfl ?_
        obtain ⟨v7, ev7, hf⟩ := ob hf
        refine g_getFN dX5_factorial_58 ev7 t_77 hin5 hc5 (by decide) rfl ?_
        refine g_iload (j := 2) dX5_factorial_61 rfl ?_
        refine g_iconst (v := 0) dX5_factorial_63 (by decide) ?_
        obtain ⟨_, h10, hf⟩ := ob hf
        obtain ⟨σ8, v9, eσ8, hf⟩ := cb_el hf
        refine g_callVN_v dX5_factorial_64 (wX3_raise _ eσ8) (okX3_raise _ (by decide) (by decide)) (ckK_el h10) hc7 t_896 t_898 s_X3_raise rfl (Nat.le_trans (cat_le _) (Nat.le_of_ble_eq_true rfl)) rfl ?_
        obtain ⟨v11, ev11, hf⟩ := nm_el hf
        refine g_iinc (L' := [(4, .int v11), (2, rv x2), (3, .int x3)]) (j := 2) (v := v11) dX5_factorial_67 rfl (by rw [ev11]; rfl) (Nat.le_of_ble_eq_true rfl) rfl ?_
        refine g_goto (tgt := 41) dX5_factorial_70 (by decide) ?_
        refine g_sub (L' := [(2, rv x2), (3, .int x3), (4, .int v11)]) [1, 2, 0] rfl ?_
        exact ih _ _ _ _ hf

set_option maxRecDepth 100000 in
set_option maxHeartbeats 4000000 in
theorem bX5_factorial_29 {X : Xt} {σf : St} {r : Unit} (hX1 : X.2.2.1 = σf) (hX2 : X.2.2.2 = .inl (none)) {σ : St} {x2 : Nat} {y0 : Int32} (hf : fX5_factorial_29 σ x2 y0 = some (σf, r)) : G MtX5_factorial X σ 29 [(2, rv x2)] [.int y0] := by
  unfold fX5_factorial_29 at hf
  refine g_istore_n (i := 3) (L' := [(3, .int y0), (2, rv x2)]) dX5_factorial_29 rfl (Nat.le_of_ble_eq_true rfl) (by simp [rv_cat]) ?_
  refine g_aload_n (j := 1) dX5_factorial_30 rfl rfl ?_
  obtain ⟨v1, ev1, hf⟩ := ob hf
  refine g_getFN dX5_factorial_31 ev1 t_77 hin5 hc5 (by decide) rfl ?_
  refine g_lconst (v := 1) dX5_factorial_34 (by decide) ?_
  obtain ⟨_, h4, hf⟩ := ob hf
  obtain ⟨σ2, v3, eσ2, hf⟩ := cb_el hf
  refine g_callVN_v dX5_factorial_35 (wX3_setSmall _ eσ2) (okX3_setSmall _ (by decide) (by decide)) (ckK_el h4) hc7 t_895 t_69 s_X3_setSmall rfl (Nat.le_trans (cat_le _) (Nat.le_of_ble_eq_true rfl)) rfl ?_
  refine g_iconst (v := 2) dX5_factorial_38 (by decide) ?_
  refine g_istore (i := 4) (L' := [(4, .int 2), (3, .int y0), (2, rv x2)]) dX5_factorial_39 (Nat.le_of_ble_eq_true rfl) rfl ?_
  refine g_sub (L' := [(2, rv x2), (3, .int y0), (4, .int 2)]) [2, 1, 0] rfl ?_
  exact bX5_factorial_41 hX1 hX2 FU _ _ _ _ hf

set_option maxRecDepth 100000 in
set_option maxHeartbeats 4000000 in
theorem wX5_factorial (l : Launch) {σ σf : St} {x0 : Nat} {x1 : Nat} {x2 : Nat} {r : Unit} (hf : fX5_factorial σ x0 x1 x2 = some (σf, r)) : Con MtX5_factorial yX5_factorial l σ [rv x0, rv x1, rv x2] σf (none) := by
  refine Con.of (by decide +kernel) rfl (fun h => absurd (show false = true from h) (by decide)) (by simp only [sl_n, sl_r, sl_i, sl_l]; exact Nat.le_of_ble_eq_true rfl) ?_
  rw [show lv_args 0 [rv x0, rv x1, rv x2] = [(0, rv x0), (1, rv x1), (2, rv x2)] by simp only [la_n, la_r, la_i, la_l] <;> rfl]
  have hX1 : ((l, σ, σf, .inl (none)) : Xt).2.2.1 = σf := rfl
  have hX2 : ((l, σ, σf, .inl (none)) : Xt).2.2.2 = .inl (none) := rfl
  unfold fX5_factorial at hf
  refine g_aload_n (j := 1) dX5_factorial_0 rfl rfl ?_
  obtain ⟨v1, ev1, hf⟩ := ob hf
  refine g_getFN dX5_factorial_1 ev1 t_77 hin5 hc5 (by decide) rfl ?_
  obtain ⟨v2, ev2, hf⟩ := ob hf
  refine g_getIN dX5_factorial_4 ev2 t_59 hin7 hc7 (by decide) rfl ?_
  refine g_iconst (v := 1) dX5_factorial_7 (by decide) ?_
  refine g_icmp_le (tgt := 16) dX5_factorial_8 (by decide) (fun c3 => ?_) (fun c3 => ?_)
  · rw [if_pos c3] at hf
    refine g_aload_n (j := 1) dX5_factorial_16 rfl rfl ?_
    obtain ⟨v4, ev4, hf⟩ := ob hf
    refine g_getFN dX5_factorial_17 ev4 t_77 hin5 hc5 (by decide) rfl ?_
    refine g_iconst (v := 0) dX5_factorial_20 (by decide) ?_
    obtain ⟨_, h7, hf⟩ := ob hf
    obtain ⟨σ5, v6, eσ5, hf⟩ := cb_el hf
    refine g_callVN_i dX5_factorial_21 (wX3_limb _ eσ5) (okX3_limb _ (by decide) (by decide)) (ckK_el h7) hc7 t_954 t_848 s_X3_limb rfl (Nat.le_trans (cat_le _) (Nat.le_of_ble_eq_true rfl)) rfl ?_
    refine g_bipush (v := 100) dX5_factorial_24 (by decide) ?_
    refine g_mmin dX5_factorial_26 t_1190 t_523 t_15 t_524 (by decide) (by decide) (Nat.le_of_ble_eq_true rfl) ?_
    refine g_sub (L' := [(2, rv x2)]) [2] rfl ?_
    exact bX5_factorial_29 hX1 hX2 hf
  · rw [if_neg c3] at hf
    refine g_bipush (v := 100) dX5_factorial_11 (by decide) ?_
    refine g_goto (tgt := 29) dX5_factorial_13 (by decide) ?_
    refine g_sub (L' := [(2, rv x2)]) [2] rfl ?_
    exact bX5_factorial_29 hX1 hX2 hf

theorem okX5_factorial (M : Mt) (h1 : 3 + 1 ≤ M.2.2.2.2.1) (h2 : 8 + (5 + 11) + 167 ≤ M.2.2.2.2.2.1) : CallOk M MtX5_factorial yX5_factorial 2 := ⟨t_1189, h1, h2, ⟨by decide, by decide⟩, by decide +kernel, t_9⟩
abbrev MtX5_commonDivisor : Mt := (cX5_commonDivisor, 4, "ExactlySaid$Reckoner", none, 5, 227, false)
set_option maxRecDepth 100000 in
set_option maxHeartbeats 4000000 in
theorem wX5_commonDivisor (l : Launch) {σ σf : St} {x0 : Nat} {x1 : Nat} {x2 : Nat} {x3 : Nat} {r : Unit} (hf : fX5_commonDivisor σ x0 x1 x2 x3 = some (σf, r)) : Con MtX5_commonDivisor yX5_commonDivisor l σ [rv x0, rv x1, rv x2, rv x3] σf (none) := by
  refine Con.of (by decide +kernel) rfl (fun h => absurd (show false = true from h) (by decide)) (by simp only [sl_n, sl_r, sl_i, sl_l]; exact Nat.le_of_ble_eq_true rfl) ?_
  rw [show lv_args 0 [rv x0, rv x1, rv x2, rv x3] = [(0, rv x0), (1, rv x1), (2, rv x2), (3, rv x3)] by simp only [la_n, la_r, la_i, la_l] <;> rfl]
  have hX1 : ((l, σ, σf, .inl (none)) : Xt).2.2.1 = σf := rfl
  have hX2 : ((l, σ, σf, .inl (none)) : Xt).2.2.2 = .inl (none) := rfl
  unfold fX5_commonDivisor at hf
  refine g_aload_n (j := 0) dX5_commonDivisor_0 rfl rfl ?_
  refine g_aload_n (j := 1) dX5_commonDivisor_1 rfl rfl ?_
  obtain ⟨v1, ev1, hf⟩ := ob hf
  refine g_getFN dX5_commonDivisor_2 ev1 t_77 hin5 hc5 (by decide) rfl ?_
  refine g_aload_n (j := 2) dX5_commonDivisor_5 rfl rfl ?_
  obtain ⟨v2, ev2, hf⟩ := ob hf
  refine g_getFN dX5_commonDivisor_6 ev2 t_77 hin5 hc5 (by decide) rfl ?_
  refine g_aload_n (j := 3) dX5_commonDivisor_9 rfl rfl ?_
  obtain ⟨v3, ev3, hf⟩ := ob hf
  refine g_getFN dX5_commonDivisor_10 ev3 t_77 hin5 hc5 (by decide) rfl ?_
  obtain ⟨_, h6, hf⟩ := ob hf
  obtain ⟨σ4, v5, eσ4, hf⟩ := cb_el hf
  refine g_callV_v dX5_commonDivisor_13 (wX5_gcd _ eσ4) (okX5_gcd _ (by decide) (by decide)) (ckK_el h6) hc9 t_1053 t_1055 s_X5_gcd rfl (Nat.le_trans (cat_le _) (Nat.le_of_ble_eq_true rfl)) rfl ?_
  refine g_aload_n (j := 3) dX5_commonDivisor_16 rfl rfl ?_
  obtain ⟨v7, ev7, hf⟩ := ob hf
  refine g_getFN dX5_commonDivisor_17 ev7 t_82 hin5 hc5 (by decide) rfl ?_
  refine g_lconst (v := 1) dX5_commonDivisor_20 (by decide) ?_
  obtain ⟨_, h10, hf⟩ := ob hf
  obtain ⟨σ8, v9, eσ8, hf⟩ := cb_el hf
  refine g_callVN_v dX5_commonDivisor_21 (wX3_setSmall _ eσ8) (okX3_setSmall _ (by decide) (by decide)) (ckK_el h10) hc7 t_895 t_69 s_X3_setSmall rfl (Nat.le_trans (cat_le _) (Nat.le_of_ble_eq_true rfl)) rfl ?_
  refine g_aload_n (j := 3) dX5_commonDivisor_24 rfl rfl ?_
  refine g_iconst (v := 1) dX5_commonDivisor_25 (by decide) ?_
  obtain ⟨_, h13, hf⟩ := ob hf
  obtain ⟨σ11, v12, eσ11, hf⟩ := cb_el hf
  refine g_callVN_v dX5_commonDivisor_26 (wX1_setSign _ eσ11) (okX1_setSign _ (by decide) (by decide)) (ckK_el h13) hc5 t_1026 t_1028 s_X1_setSign rfl (Nat.le_trans (cat_le _) (Nat.le_of_ble_eq_true rfl)) rfl ?_
  exact g_vret dX5_commonDivisor_29 rfl hX2 hX1 hf

theorem okX5_commonDivisor (M : Mt) (h1 : 5 + 1 ≤ M.2.2.2.2.1) (h2 : 8 + (4 + 11) + 227 ≤ M.2.2.2.2.2.1) : CallOk M MtX5_commonDivisor yX5_commonDivisor 3 := ⟨t_1195, h1, h2, ⟨by decide, by decide⟩, by decide +kernel, t_9⟩
abbrev MtX5_commonMultiple : Mt := (cX5_commonMultiple, 4, "ExactlySaid$Reckoner", none, 5, 227, false)
set_option maxRecDepth 100000 in
set_option maxHeartbeats 4000000 in
theorem wX5_commonMultiple (l : Launch) {σ σf : St} {x0 : Nat} {x1 : Nat} {x2 : Nat} {x3 : Nat} {r : Unit} (hf : fX5_commonMultiple σ x0 x1 x2 x3 = some (σf, r)) : Con MtX5_commonMultiple yX5_commonMultiple l σ [rv x0, rv x1, rv x2, rv x3] σf (none) := by
  refine Con.of (by decide +kernel) rfl (fun h => absurd (show false = true from h) (by decide)) (by simp only [sl_n, sl_r, sl_i, sl_l]; exact Nat.le_of_ble_eq_true rfl) ?_
  rw [show lv_args 0 [rv x0, rv x1, rv x2, rv x3] = [(0, rv x0), (1, rv x1), (2, rv x2), (3, rv x3)] by simp only [la_n, la_r, la_i, la_l] <;> rfl]
  have hX1 : ((l, σ, σf, .inl (none)) : Xt).2.2.1 = σf := rfl
  have hX2 : ((l, σ, σf, .inl (none)) : Xt).2.2.2 = .inl (none) := rfl
  unfold fX5_commonMultiple at hf
  refine g_aload_n (j := 0) dX5_commonMultiple_0 rfl rfl ?_
  refine g_aload_n (j := 1) dX5_commonMultiple_1 rfl rfl ?_
  obtain ⟨v1, ev1, hf⟩ := ob hf
  refine g_getFN dX5_commonMultiple_2 ev1 t_77 hin5 hc5 (by decide) rfl ?_
  refine g_aload_n (j := 2) dX5_commonMultiple_5 rfl rfl ?_
  obtain ⟨v2, ev2, hf⟩ := ob hf
  refine g_getFN dX5_commonMultiple_6 ev2 t_77 hin5 hc5 (by decide) rfl ?_
  refine g_aload_n (j := 0) dX5_commonMultiple_9 rfl rfl ?_
  obtain ⟨v3, ev3, hf⟩ := ob hf
  refine g_getF dX5_commonMultiple_10 ev3 t_164 hin9 hc9 (by decide) rfl ?_
  obtain ⟨_, h6, hf⟩ := ob hf
  obtain ⟨σ4, v5, eσ4, hf⟩ := cb_el hf
  refine g_callV_v dX5_commonMultiple_13 (wX5_gcd _ eσ4) (okX5_gcd _ (by decide) (by decide)) (ckK_el h6) hc9 t_1053 t_1055 s_X5_gcd rfl (Nat.le_trans (cat_le _) (Nat.le_of_ble_eq_true rfl)) rfl ?_
  refine g_aload_n (j := 0) dX5_commonMultiple_16 rfl rfl ?_
  refine g_aload_n (j := 1) dX5_commonMultiple_17 rfl rfl ?_
  obtain ⟨v7, ev7, hf⟩ := ob hf
  refine g_getFN dX5_commonMultiple_18 ev7 t_77 hin5 hc5 (by decide) rfl ?_
  refine g_aload_n (j := 0) dX5_commonMultiple_21 rfl rfl ?_
  obtain ⟨v8, ev8, hf⟩ := ob hf
  refine g_getF dX5_commonMultiple_22 ev8 t_164 hin9 hc9 (by decide) rfl ?_
  refine g_aload_n (j := 0) dX5_commonMultiple_25 rfl rfl ?_
  obtain ⟨v9, ev9, hf⟩ := ob hf
  refine g_getF dX5_commonMultiple_26 ev9 t_166 hin9 hc9 (by decide) rfl ?_
  refine g_aload_n (j := 0) dX5_commonMultiple_29 rfl rfl ?_
  obtain ⟨v10, ev10, hf⟩ := ob hf
  refine g_getF dX5_commonMultiple_30 ev10 t_161 hin9 hc9 (by decide) rfl ?_
  obtain ⟨_, h13, hf⟩ := ob hf
  obtain ⟨σ11, v12, eσ11, hf⟩ := cb_el hf
  refine g_callV_v dX5_commonMultiple_33 (wX5_divide _ eσ11) (okX5_divide _ (by decide) (by decide)) (ckK_el h13) hc9 t_929 t_931 s_X5_divide rfl (Nat.le_trans (cat_le _) (Nat.le_of_ble_eq_true rfl)) rfl ?_
  refine g_aload_n (j := 3) dX5_commonMultiple_36 rfl rfl ?_
  obtain ⟨v14, ev14, hf⟩ := ob hf
  refine g_getFN dX5_commonMultiple_37 ev14 t_77 hin5 hc5 (by decide) rfl ?_
  refine g_aload_n (j := 0) dX5_commonMultiple_40 rfl rfl ?_
  obtain ⟨v15, ev15, hf⟩ := ob hf
  refine g_getF dX5_commonMultiple_41 ev15 t_166 hin9 hc9 (by decide) rfl ?_
  refine g_aload_n (j := 2) dX5_commonMultiple_44 rfl rfl ?_
  obtain ⟨v16, ev16, hf⟩ := ob hf
  refine g_getFN dX5_commonMultiple_45 ev16 t_77 hin5 hc5 (by decide) rfl ?_
  obtain ⟨_, h19, hf⟩ := ob hf
  obtain ⟨σ17, v18, eσ17, hf⟩ := cb_el hf
  refine g_callVN_v dX5_commonMultiple_48 (wX3_setProduct _ eσ17) (okX3_setProduct _ (by decide) (by decide)) (ckK_el h19) hc7 t_1057 t_1059 s_X3_setProduct rfl (Nat.le_trans (cat_le _) (Nat.le_of_ble_eq_true rfl)) rfl ?_
  refine g_aload_n (j := 3) dX5_commonMultiple_51 rfl rfl ?_
  obtain ⟨v20, ev20, hf⟩ := ob hf
  refine g_getFN dX5_commonMultiple_52 ev20 t_82 hin5 hc5 (by decide) rfl ?_
  refine g_lconst (v := 1) dX5_commonMultiple_55 (by decide) ?_
  obtain ⟨_, h23, hf⟩ := ob hf
  obtain ⟨σ21, v22, eσ21, hf⟩ := cb_el hf
  refine g_callVN_v dX5_commonMultiple_56 (wX3_setSmall _ eσ21) (okX3_setSmall _ (by decide) (by decide)) (ckK_el h23) hc7 t_895 t_69 s_X3_setSmall rfl (Nat.le_trans (cat_le _) (Nat.le_of_ble_eq_true rfl)) rfl ?_
  refine g_aload_n (j := 3) dX5_commonMultiple_59 rfl rfl ?_
  refine g_iconst (v := 1) dX5_commonMultiple_60 (by decide) ?_
  obtain ⟨_, h26, hf⟩ := ob hf
  obtain ⟨σ24, v25, eσ24, hf⟩ := cb_el hf
  refine g_callVN_v dX5_commonMultiple_61 (wX1_setSign _ eσ24) (okX1_setSign _ (by decide) (by decide)) (ckK_el h26) hc5 t_1026 t_1028 s_X1_setSign rfl (Nat.le_trans (cat_le _) (Nat.le_of_ble_eq_true rfl)) rfl ?_
  exact g_vret dX5_commonMultiple_64 rfl hX2 hX1 hf

theorem okX5_commonMultiple (M : Mt) (h1 : 5 + 1 ≤ M.2.2.2.2.1) (h2 : 8 + (4 + 11) + 227 ≤ M.2.2.2.2.2.1) : CallOk M MtX5_commonMultiple yX5_commonMultiple 3 := ⟨t_1199, h1, h2, ⟨by decide, by decide⟩, by decide +kernel, t_9⟩
abbrev MtX5_round : Mt := (cX5_round, 6, "ExactlySaid$Reckoner", none, 4, 195, false)
set_option maxRecDepth 100000 in
set_option maxHeartbeats 4000000 in
theorem bX5_round_136 {X : Xt} {σf : St} {r : Unit} (hX1 : X.2.2.1 = σf) (hX2 : X.2.2.2 = .inl (none)) {σ : St} {x1 : Nat} {x3 : Nat} (hf : fX5_round_136 σ x1 x3 = some (σf, r)) : G MtX5_round X σ 136 [(1, rv x1), (3, rv x3)] [] := by
  unfold fX5_round_136 at hf
  refine g_aload_n (j := 1) dX5_round_136 rfl rfl ?_
  obtain ⟨v1, ev1, hf⟩ := ob hf
  refine g_getFN dX5_round_137 ev1 t_82 hin5 hc5 (by decide) rfl ?_
  refine g_lconst (v := 1) dX5_round_140 (by decide) ?_
  obtain ⟨_, h4, hf⟩ := ob hf
  obtain ⟨σ2, v3, eσ2, hf⟩ := cb_el hf
  refine g_callVN_v dX5_round_141 (wX3_setSmall _ eσ2) (okX3_setSmall _ (by decide) (by decide)) (ckK_el h4) hc7 t_895 t_69 s_X3_setSmall rfl (Nat.le_trans (cat_le _) (Nat.le_of_ble_eq_true rfl)) rfl ?_
  refine g_aload_n (j := 1) dX5_round_144 rfl rfl ?_
  refine g_aload_n (j := 0) dX5_round_145 rfl rfl ?_
  obtain ⟨v5, ev5, hf⟩ := ob hf
  refine g_getIN dX5_round_146 ev5 t_73 hin5 hc5 (by decide) rfl ?_
  obtain ⟨_, h8, hf⟩ := ob hf
  obtain ⟨σ6, v7, eσ6, hf⟩ := cb_el hf
  refine g_callVN_v dX5_round_149 (wX1_setSign _ eσ6) (okX1_setSign _ (by decide) (by decide)) (ckK_el h8) hc5 t_1026 t_1028 s_X1_setSign rfl (Nat.le_trans (cat_le _) (Nat.le_of_ble_eq_true rfl)) rfl ?_
  exact g_vret dX5_round_152 rfl hX2 hX1 hf

set_option maxRecDepth 100000 in
set_option maxHeartbeats 4000000 in
theorem bX5_round_122 {X : Xt} {σf : St} {r : Unit} (hX1 : X.2.2.1 = σf) (hX2 : X.2.2.2 = .inl (none)) {σ : St} {x1 : Nat} {x3 : Nat} {x4 : Int32} (hf : fX5_round_122 σ x1 x3 x4 = some (σf, r)) : G MtX5_round X σ 122 [(1, rv x1), (3, rv x3), (4, .int x4)] [] := by
  unfold fX5_round_122 at hf
  refine g_iload (j := 2) dX5_round_122 rfl ?_
  refine g_if_eq (tgt := 136) dX5_round_124 (by decide) (fun c1 => ?_) (fun c1 => ?_)
  · rw [if_pos c1] at hf
    refine g_sub (L' := [(1, rv x1), (3, rv x3)]) [0, 1] rfl ?_
    exact bX5_round_136 hX1 hX2 hf
  · rw [if_neg c1] at hf
    refine g_aload_n (j := 1) dX5_round_127 rfl rfl ?_
    obtain ⟨v2, ev2, hf⟩ := ob hf
    refine g_getFN dX5_round_128 ev2 t_77 hin5 hc5 (by decide) rfl ?_
    refine g_iconst (v := 1) dX5_round_131 (by decide) ?_
    refine g_iconst (v := 1) dX5_round_132 (by decide) ?_
    obtain ⟨_, h5, hf⟩ := ob hf
    obtain ⟨σ3, v4, eσ3, hf⟩ := cb_el hf
    refine g_callVN_v dX5_round_133 (wX3_raise _ eσ3) (okX3_raise _ (by decide) (by decide)) (ckK_el h5) hc7 t_896 t_898 s_X3_raise rfl (Nat.le_trans (cat_le _) (Nat.le_of_ble_eq_true rfl)) rfl ?_
    refine g_sub (L' := [(1, rv x1), (3, rv x3)]) [0, 1] rfl ?_
    exact bX5_round_136 hX1 hX2 hf

set_option maxRecDepth 100000 in
set_option maxHeartbeats 4000000 in
theorem bX5_round_74 {X : Xt} {σf : St} {r : Unit} (hX1 : X.2.2.1 = σf) (hX2 : X.2.2.2 = .inl (none)) {σ : St} {x1 : Nat} {x3 : Nat} {y0 : Int32} (hf : fX5_round_74 σ x1 x3 y0 = some (σf, r)) : G MtX5_round X σ 74 [(1, rv x1), (3, rv x3)] [.int y0] := by
  unfold fX5_round_74 at hf
  refine g_istore (i := 4) (L' := [(4, .int y0), (1, rv x1), (3, rv x3)]) dX5_round_74 (Nat.le_of_ble_eq_true rfl) (by simp [rv_cat]) ?_
  refine g_goto (tgt := 122) dX5_round_76 (by decide) ?_
  refine g_sub (L' := [(1, rv x1), (3, rv x3), (4, .int y0)]) [1, 2, 0] rfl ?_
  exact bX5_round_122 hX1 hX2 hf

set_option maxRecDepth 100000 in
set_option maxHeartbeats 4000000 in
theorem bX5_round_69 {X : Xt} {σf : St} {r : Unit} (hX1 : X.2.2.1 = σf) (hX2 : X.2.2.2 = .inl (none)) {σ : St} {x1 : Nat} {x3 : Nat} (hf : fX5_round_69 σ x1 x3 = some (σf, r)) : G MtX5_round X σ 69 [(1, rv x1), (3, rv x3)] [] := by
  unfold fX5_round_69 at hf
  refine g_iconst (v := 1) dX5_round_69 (by decide) ?_
  refine g_goto (tgt := 74) dX5_round_70 (by decide) ?_
  exact bX5_round_74 hX1 hX2 hf

set_option maxRecDepth 100000 in
set_option maxHeartbeats 4000000 in
theorem bX5_round_73 {X : Xt} {σf : St} {r : Unit} (hX1 : X.2.2.1 = σf) (hX2 : X.2.2.2 = .inl (none)) {σ : St} {x1 : Nat} {x3 : Nat} (hf : fX5_round_73 σ x1 x3 = some (σf, r)) : G MtX5_round X σ 73 [(1, rv x1), (3, rv x3)] [] := by
  unfold fX5_round_73 at hf
  refine g_iconst (v := 0) dX5_round_73 (by decide) ?_
  exact bX5_round_74 hX1 hX2 hf

set_option maxRecDepth 100000 in
set_option maxHeartbeats 4000000 in
theorem bX5_round_120 {X : Xt} {σf : St} {r : Unit} (hX1 : X.2.2.1 = σf) (hX2 : X.2.2.2 = .inl (none)) {σ : St} {x1 : Nat} {x3 : Nat} {y0 : Int32} (hf : fX5_round_120 σ x1 x3 y0 = some (σf, r)) : G MtX5_round X σ 120 [(1, rv x1), (3, rv x3)] [.int y0] := by
  unfold fX5_round_120 at hf
  refine g_istore (i := 4) (L' := [(4, .int y0), (1, rv x1), (3, rv x3)]) dX5_round_120 (Nat.le_of_ble_eq_true rfl) (by simp [rv_cat]) ?_
  refine g_sub (L' := [(1, rv x1), (3, rv x3), (4, .int y0)]) [1, 2, 0] rfl ?_
  exact bX5_round_122 hX1 hX2 hf

set_option maxRecDepth 100000 in
set_option maxHeartbeats 4000000 in
theorem bX5_round_119 {X : Xt} {σf : St} {r : Unit} (hX1 : X.2.2.1 = σf) (hX2 : X.2.2.2 = .inl (none)) {σ : St} {x1 : Nat} {x3 : Nat} (hf : fX5_round_119 σ x1 x3 = some (σf, r)) : G MtX5_round X σ 119 [(1, rv x1), (3, rv x3)] [] := by
  unfold fX5_round_119 at hf
  refine g_iconst (v := 0) dX5_round_119 (by decide) ?_
  exact bX5_round_120 hX1 hX2 hf

set_option maxRecDepth 100000 in
set_option maxHeartbeats 4000000 in
theorem bX5_round_112 {X : Xt} {σf : St} {r : Unit} (hX1 : X.2.2.1 = σf) (hX2 : X.2.2.2 = .inl (none)) {σ : St} {x1 : Nat} {x3 : Nat} {y0 : Int32} {y1 : Int32} (hf : fX5_round_112 σ x1 x3 y0 y1 = some (σf, r)) : G MtX5_round X σ 112 [(1, rv x1), (3, rv x3)] [.int y1, .int y0] := by
  unfold fX5_round_112 at hf
  refine g_icmp_ne (tgt := 119) dX5_round_112 (by decide) (fun c1 => ?_) (fun c1 => ?_)
  · rw [if_neg c1] at hf
    exact bX5_round_119 hX1 hX2 hf
  · rw [if_pos c1] at hf
    refine g_iconst (v := 1) dX5_round_115 (by decide) ?_
    refine g_goto (tgt := 120) dX5_round_116 (by decide) ?_
    exact bX5_round_120 hX1 hX2 hf

set_option maxRecDepth 100000 in
set_option maxHeartbeats 4000000 in
theorem bX5_round_101 {X : Xt} {σf : St} {r : Unit} (hX1 : X.2.2.1 = σf) (hX2 : X.2.2.2 = .inl (none)) {σ : St} {x1 : Nat} {x2 : Int32} {x3 : Nat} {y0 : Int32} (hf : fX5_round_101 σ x1 x2 x3 y0 = some (σf, r)) : G MtX5_round X σ 101 [(1, rv x1), (2, .int x2), (3, rv x3)] [.int y0] := by
  unfold fX5_round_101 at hf
  refine g_iload_n (j := 1) dX5_round_101 rfl rfl ?_
  refine g_bipush (v := 12) dX5_round_102 (by decide) ?_
  refine g_icmp_ne (tgt := 111) dX5_round_104 (by decide) (fun c1 => ?_) (fun c1 => ?_)
  · rw [if_neg c1] at hf
    refine g_iconst (v := 0) dX5_round_111 (by decide) ?_
    refine g_sub (L' := [(1, rv x1), (3, rv x3)]) [0, 2] rfl ?_
    exact bX5_round_112 hX1 hX2 hf
  · rw [if_pos c1] at hf
    refine g_iconst (v := 1) dX5_round_107 (by decide) ?_
    refine g_goto (tgt := 112) dX5_round_108 (by decide) ?_
    refine g_sub (L' := [(1, rv x1), (3, rv x3)]) [0, 2] rfl ?_
    exact bX5_round_112 hX1 hX2 hf

set_option maxRecDepth 100000 in
set_option maxHeartbeats 4000000 in
theorem wX5_round (l : Launch) {σ σf : St} {x0 : Nat} {x1 : Nat} {x2 : Int32} {x3 : Nat} {r : Unit} (hf : fX5_round σ x0 x1 x2 x3 = some (σf, r)) : Con MtX5_round yX5_round l σ [rv x0, rv x1, .int x2, rv x3] σf (none) := by
  refine Con.of (by decide +kernel) rfl (fun h => absurd (show false = true from h) (by decide)) (by simp only [sl_n, sl_r, sl_i, sl_l]; exact Nat.le_of_ble_eq_true rfl) ?_
  rw [show lv_args 0 [rv x0, rv x1, .int x2, rv x3] = [(0, rv x0), (1, rv x1), (2, .int x2), (3, rv x3)] by simp only [la_n, la_r, la_i, la_l] <;> rfl]
  have hX1 : ((l, σ, σf, .inl (none)) : Xt).2.2.1 = σf := rfl
  have hX2 : ((l, σ, σf, .inl (none)) : Xt).2.2.2 = .inl (none) := rfl
  unfold fX5_round at hf
  refine g_aload_n (j := 0) dX5_round_0 rfl rfl ?_
  refine g_aload_n (j := 1) dX5_round_1 rfl rfl ?_
  obtain ⟨v1, ev1, hf⟩ := ob hf
  refine g_getFN dX5_round_2 ev1 t_77 hin5 hc5 (by decide) rfl ?_
  refine g_aload_n (j := 1) dX5_round_5 rfl rfl ?_
  obtain ⟨v2, ev2, hf⟩ := ob hf
  refine g_getFN dX5_round_6 ev2 t_82 hin5 hc5 (by decide) rfl ?_
  refine g_aload_n (j := 3) dX5_round_9 rfl rfl ?_
  obtain ⟨v3, ev3, hf⟩ := ob hf
  refine g_getFN dX5_round_10 ev3 t_77 hin5 hc5 (by decide) rfl ?_
  refine g_aload_n (j := 0) dX5_round_13 rfl rfl ?_
  obtain ⟨v4, ev4, hf⟩ := ob hf
  refine g_getF dX5_round_14 ev4 t_161 hin9 hc9 (by decide) rfl ?_
  obtain ⟨_, h7, hf⟩ := ob hf
  obtain ⟨σ5, v6, eσ5, hf⟩ := cb_el hf
  refine g_callV_v dX5_round_17 (wX5_divide _ eσ5) (okX5_divide _ (by decide) (by decide)) (ckK_el h7) hc9 t_929 t_931 s_X5_divide rfl (Nat.le_trans (cat_le _) (Nat.le_of_ble_eq_true rfl)) rfl ?_
  refine g_iload_n (j := 2) dX5_round_20 rfl rfl ?_
  refine g_bipush (v := 14) dX5_round_21 (by decide) ?_
  refine g_icmp_ne (tgt := 79) dX5_round_23 (by decide) (fun c8 => ?_) (fun c8 => ?_)
  · rw [if_neg c8] at hf
    refine g_aload_n (j := 0) dX5_round_79 rfl rfl ?_
    obtain ⟨v9, ev9, hf⟩ := ob hf
    refine g_getF dX5_round_80 ev9 t_161 hin9 hc9 (by decide) rfl ?_
    obtain ⟨_, h12, hf⟩ := ob hf
    obtain ⟨σ10, v11, eσ10, hf⟩ := cb_el hf
    refine g_callVN_i dX5_round_83 (wX3_isZero _ eσ10) (okX3_isZero _ (by decide) (by decide)) (ckK_el h12) hc7 t_1022 t_1024 s_X3_isZero rfl (Nat.le_trans (cat_le _) (Nat.le_of_ble_eq_true rfl)) rfl ?_
    refine g_if_ne (tgt := 119) dX5_round_86 (by decide) (fun c13 => ?_) (fun c13 => ?_)
    · rw [if_neg c13] at hf
      refine g_sub (L' := [(1, rv x1), (3, rv x3)]) [1, 3] rfl ?_
      exact bX5_round_119 hX1 hX2 hf
    · rw [if_pos c13] at hf
      refine g_aload_n (j := 1) dX5_round_89 rfl rfl ?_
      obtain ⟨v14, ev14, hf⟩ := ob hf
      refine g_getIN dX5_round_90 ev14 t_73 hin5 hc5 (by decide) rfl ?_
      refine g_if_ge (tgt := 100) dX5_round_93 (by decide) (fun c15 => ?_) (fun c15 => ?_)
      · rw [if_pos c15] at hf
        refine g_iconst (v := 0) dX5_round_100 (by decide) ?_
        refine g_sub (L' := [(1, rv x1), (2, .int x2), (3, rv x3)]) [1, 2, 3] rfl ?_
        exact bX5_round_101 hX1 hX2 hf
      · rw [if_neg c15] at hf
        refine g_iconst (v := 1) dX5_round_96 (by decide) ?_
        refine g_goto (tgt := 101) dX5_round_97 (by decide) ?_
        refine g_sub (L' := [(1, rv x1), (2, .int x2), (3, rv x3)]) [1, 2, 3] rfl ?_
        exact bX5_round_101 hX1 hX2 hf
  · rw [if_pos c8] at hf
    refine g_aload_n (j := 0) dX5_round_26 rfl rfl ?_
    obtain ⟨v16, ev16, hf⟩ := ob hf
    refine g_getF dX5_round_27 ev16 t_161 hin9 hc9 (by decide) rfl ?_
    refine g_iconst (v := 2) dX5_round_30 (by decide) ?_
    refine g_iconst (v := 0) dX5_round_31 (by decide) ?_
    obtain ⟨_, h19, hf⟩ := ob hf
    obtain ⟨σ17, v18, eσ17, hf⟩ := cb_el hf
    refine g_callVN_v dX5_round_32 (wX3_raise _ eσ17) (okX3_raise _ (by decide) (by decide)) (ckK_el h19) hc7 t_896 t_898 s_X3_raise rfl (Nat.le_trans (cat_le _) (Nat.le_of_ble_eq_true rfl)) rfl ?_
    refine g_aload_n (j := 0) dX5_round_35 rfl rfl ?_
    obtain ⟨v20, ev20, hf⟩ := ob hf
    refine g_getF dX5_round_36 ev20 t_161 hin9 hc9 (by decide) rfl ?_
    refine g_aload_n (j := 1) dX5_round_39 rfl rfl ?_
    obtain ⟨v21, ev21, hf⟩ := ob hf
    refine g_getFN dX5_round_40 ev21 t_82 hin5 hc5 (by decide) rfl ?_
    obtain ⟨_, h24, hf⟩ := ob hf
    obtain ⟨σ22, v23, eσ22, hf⟩ := cb_el hf
    refine g_callVN_i dX5_round_43 (wX3_against _ eσ22) (okX3_against _ (by decide) (by decide)) (ckK_el h24) hc7 t_908 t_910 s_X3_against rfl (Nat.le_trans (cat_le _) (Nat.le_of_ble_eq_true rfl)) rfl ?_
    refine g_istore (i := 5) (L' := [(5, .int v23), (0, rv x0), (1, rv x1), (2, .int x2), (3, rv x3)]) dX5_round_46 (Nat.le_of_ble_eq_true rfl) rfl ?_
    refine g_iload (j := 0) dX5_round_48 rfl ?_
    refine g_if_gt (tgt := 69) dX5_round_50 (by decide) (fun c25 => ?_) (fun c25 => ?_)
    · rw [if_pos c25] at hf
      refine g_sub (L' := [(1, rv x1), (3, rv x3)]) [2, 4] rfl ?_
      exact bX5_round_69 hX1 hX2 hf
    · rw [if_neg c25] at hf
      refine g_iload (j := 0) dX5_round_53 rfl ?_
      refine g_if_ne (tgt := 73) dX5_round_55 (by decide) (fun c26 => ?_) (fun c26 => ?_)
      · rw [if_neg c26] at hf
        refine g_sub (L' := [(1, rv x1), (3, rv x3)]) [2, 4] rfl ?_
        exact bX5_round_73 hX1 hX2 hf
      · rw [if_pos c26] at hf
        refine g_aload_n (j := 4) dX5_round_58 rfl rfl ?_
        obtain ⟨v27, ev27, hf⟩ := ob hf
        refine g_getFN dX5_round_59 ev27 t_77 hin5 hc5 (by decide) rfl ?_
        refine g_iconst (v := 2) dX5_round_62 (by decide) ?_
        obtain ⟨_, h30, hf⟩ := ob hf
        obtain ⟨σ28, v29, eσ28, hf⟩ := cb_el hf
        refine g_callVN_i dX5_round_63 (wX3_isMultiple _ eσ28) (okX3_isMultiple _ (by decide) (by decide)) (ckK_el h30) hc7 t_867 t_869 s_X3_isMultiple rfl (Nat.le_trans (cat_le _) (Nat.le_of_ble_eq_true rfl)) rfl ?_
        refine g_if_ne (tgt := 73) dX5_round_66 (by decide) (fun c31 => ?_) (fun c31 => ?_)
        · rw [if_neg c31] at hf
          refine g_sub (L' := [(1, rv x1), (3, rv x3)]) [2, 4] rfl ?_
          exact bX5_round_73 hX1 hX2 hf
        · rw [if_pos c31] at hf
          refine g_sub (L' := [(1, rv x1), (3, rv x3)]) [2, 4] rfl ?_
          exact bX5_round_69 hX1 hX2 hf

theorem okX5_round (M : Mt) (h1 : 4 + 1 ≤ M.2.2.2.2.1) (h2 : 8 + (6 + 11) + 195 ≤ M.2.2.2.2.2.1) : CallOk M MtX5_round yX5_round 3 := ⟨t_1021, h1, h2, ⟨by decide, by decide⟩, by decide +kernel, t_9⟩
abbrev MtX5_mediate : Mt := (cX5_mediate, 4, "ExactlySaid$Reckoner", none, 4, 191, false)
set_option maxRecDepth 100000 in
set_option maxHeartbeats 4000000 in
theorem wX5_mediate (l : Launch) {σ σf : St} {x0 : Nat} {x1 : Nat} {x2 : Nat} {x3 : Nat} {r : Unit} (hf : fX5_mediate σ x0 x1 x2 x3 = some (σf, r)) : Con MtX5_mediate yX5_mediate l σ [rv x0, rv x1, rv x2, rv x3] σf (none) := by
  refine Con.of (by decide +kernel) rfl (fun h => absurd (show false = true from h) (by decide)) (by simp only [sl_n, sl_r, sl_i, sl_l]; exact Nat.le_of_ble_eq_true rfl) ?_
  rw [show lv_args 0 [rv x0, rv x1, rv x2, rv x3] = [(0, rv x0), (1, rv x1), (2, rv x2), (3, rv x3)] by simp only [la_n, la_r, la_i, la_l] <;> rfl]
  have hX1 : ((l, σ, σf, .inl (none)) : Xt).2.2.1 = σf := rfl
  have hX2 : ((l, σ, σf, .inl (none)) : Xt).2.2.2 = .inl (none) := rfl
  unfold fX5_mediate at hf
  refine g_aload_n (j := 0) dX5_mediate_0 rfl rfl ?_
  obtain ⟨v1, ev1, hf⟩ := ob hf
  refine g_getF dX5_mediate_1 ev1 t_168 hin9 hc9 (by decide) rfl ?_
  refine g_aload_n (j := 1) dX5_mediate_4 rfl rfl ?_
  obtain ⟨v2, ev2, hf⟩ := ob hf
  refine g_getFN dX5_mediate_5 ev2 t_77 hin5 hc5 (by decide) rfl ?_
  obtain ⟨_, h5, hf⟩ := ob hf
  obtain ⟨σ3, v4, eσ3, hf⟩ := cb_el hf
  refine g_callVN_v dX5_mediate_8 (wX3_setTo _ eσ3) (okX3_setTo _ (by decide) (by decide)) (ckK_el h5) hc7 t_863 t_865 s_X3_setTo rfl (Nat.le_trans (cat_le _) (Nat.le_of_ble_eq_true rfl)) rfl ?_
  refine g_aload_n (j := 0) dX5_mediate_11 rfl rfl ?_
  obtain ⟨v6, ev6, hf⟩ := ob hf
  refine g_getF dX5_mediate_12 ev6 t_169 hin9 hc9 (by decide) rfl ?_
  refine g_aload_n (j := 2) dX5_mediate_15 rfl rfl ?_
  obtain ⟨v7, ev7, hf⟩ := ob hf
  refine g_getFN dX5_mediate_16 ev7 t_77 hin5 hc5 (by decide) rfl ?_
  obtain ⟨_, h10, hf⟩ := ob hf
  obtain ⟨σ8, v9, eσ8, hf⟩ := cb_el hf
  refine g_callVN_v dX5_mediate_19 (wX3_setTo _ eσ8) (okX3_setTo _ (by decide) (by decide)) (ckK_el h10) hc7 t_863 t_865 s_X3_setTo rfl (Nat.le_trans (cat_le _) (Nat.le_of_ble_eq_true rfl)) rfl ?_
  refine g_aload_n (j := 0) dX5_mediate_22 rfl rfl ?_
  refine g_aload_n (j := 1) dX5_mediate_23 rfl rfl ?_
  obtain ⟨v11, ev11, hf⟩ := ob hf
  refine g_getIN dX5_mediate_24 ev11 t_73 hin5 hc5 (by decide) rfl ?_
  refine g_aload_n (j := 2) dX5_mediate_27 rfl rfl ?_
  obtain ⟨v12, ev12, hf⟩ := ob hf
  refine g_getIN dX5_mediate_28 ev12 t_73 hin5 hc5 (by decide) rfl ?_
  refine g_aload_n (j := 3) dX5_mediate_31 rfl rfl ?_
  obtain ⟨_, h15, hf⟩ := ob hf
  obtain ⟨σ13, v14, eσ13, hf⟩ := cb_el hf
  refine g_callV_v dX5_mediate_32 (wX5_join _ eσ13) (okX5_join _ (by decide) (by decide)) (ckK_el h15) hc9 t_1061 t_1063 s_X5_join rfl (Nat.le_trans (cat_le _) (Nat.le_of_ble_eq_true rfl)) rfl ?_
  refine g_aload_n (j := 3) dX5_mediate_35 rfl rfl ?_
  obtain ⟨v16, ev16, hf⟩ := ob hf
  refine g_getFN dX5_mediate_36 ev16 t_82 hin5 hc5 (by decide) rfl ?_
  refine g_aload_n (j := 1) dX5_mediate_39 rfl rfl ?_
  obtain ⟨v17, ev17, hf⟩ := ob hf
  refine g_getFN dX5_mediate_40 ev17 t_82 hin5 hc5 (by decide) rfl ?_
  obtain ⟨_, h20, hf⟩ := ob hf
  obtain ⟨σ18, v19, eσ18, hf⟩ := cb_el hf
  refine g_callVN_v dX5_mediate_43 (wX3_setTo _ eσ18) (okX3_setTo _ (by decide) (by decide)) (ckK_el h20) hc7 t_863 t_865 s_X3_setTo rfl (Nat.le_trans (cat_le _) (Nat.le_of_ble_eq_true rfl)) rfl ?_
  refine g_aload_n (j := 3) dX5_mediate_46 rfl rfl ?_
  obtain ⟨v21, ev21, hf⟩ := ob hf
  refine g_getFN dX5_mediate_47 ev21 t_82 hin5 hc5 (by decide) rfl ?_
  refine g_aload_n (j := 2) dX5_mediate_50 rfl rfl ?_
  obtain ⟨v22, ev22, hf⟩ := ob hf
  refine g_getFN dX5_mediate_51 ev22 t_82 hin5 hc5 (by decide) rfl ?_
  obtain ⟨_, h25, hf⟩ := ob hf
  obtain ⟨σ23, v24, eσ23, hf⟩ := cb_el hf
  refine g_callVN_v dX5_mediate_54 (wX3_plus _ eσ23) (okX3_plus _ (by decide) (by decide)) (ckK_el h25) hc7 t_1065 t_1067 s_X3_plus rfl (Nat.le_trans (cat_le _) (Nat.le_of_ble_eq_true rfl)) rfl ?_
  exact g_vret dX5_mediate_57 rfl hX2 hX1 hf

theorem okX5_mediate (M : Mt) (h1 : 4 + 1 ≤ M.2.2.2.2.1) (h2 : 8 + (4 + 11) + 191 ≤ M.2.2.2.2.2.1) : CallOk M MtX5_mediate yX5_mediate 3 := ⟨t_1204, h1, h2, ⟨by decide, by decide⟩, by decide +kernel, t_9⟩
abbrev MtX5_order : Mt := (cX5_order, 3, "ExactlySaid$Reckoner", (Option.some Jvm.ClassFile.FieldType.int), 3, 131, false)
set_option maxRecDepth 100000 in
set_option maxHeartbeats 4000000 in
theorem wX5_order (l : Launch) {σ σf : St} {x0 : Nat} {x1 : Nat} {x2 : Nat} {r : Int32} (hf : fX5_order σ x0 x1 x2 = some (σf, r)) : Con MtX5_order yX5_order l σ [rv x0, rv x1, rv x2] σf (some (.int r)) := by
  refine Con.of (by decide +kernel) rfl (fun h => absurd (show false = true from h) (by decide)) (by simp only [sl_n, sl_r, sl_i, sl_l]; exact Nat.le_of_ble_eq_true rfl) ?_
  rw [show lv_args 0 [rv x0, rv x1, rv x2] = [(0, rv x0), (1, rv x1), (2, rv x2)] by simp only [la_n, la_r, la_i, la_l] <;> rfl]
  have hX1 : ((l, σ, σf, .inl (some (.int r))) : Xt).2.2.1 = σf := rfl
  have hX2 : ((l, σ, σf, .inl (some (.int r))) : Xt).2.2.2 = .inl (some (.int r)) := rfl
  unfold fX5_order at hf
  refine g_aload_n (j := 1) dX5_order_0 rfl rfl ?_
  obtain ⟨v1, ev1, hf⟩ := ob hf
  refine g_getIN dX5_order_1 ev1 t_73 hin5 hc5 (by decide) rfl ?_
  refine g_aload_n (j := 2) dX5_order_4 rfl rfl ?_
  obtain ⟨v2, ev2, hf⟩ := ob hf
  refine g_getIN dX5_order_5 ev2 t_73 hin5 hc5 (by decide) rfl ?_
  refine g_icmp_eq (tgt := 28) dX5_order_8 (by decide) (fun c3 => ?_) (fun c3 => ?_)
  · rw [if_pos c3] at hf
    refine g_aload_n (j := 0) dX5_order_28 rfl rfl ?_
    obtain ⟨v4, ev4, hf⟩ := ob hf
    refine g_getF dX5_order_29 ev4 t_168 hin9 hc9 (by decide) rfl ?_
    refine g_aload_n (j := 1) dX5_order_32 rfl rfl ?_
    obtain ⟨v5, ev5, hf⟩ := ob hf
    refine g_getFN dX5_order_33 ev5 t_77 hin5 hc5 (by decide) rfl ?_
    refine g_aload_n (j := 2) dX5_order_36 rfl rfl ?_
    obtain ⟨v6, ev6, hf⟩ := ob hf
    refine g_getFN dX5_order_37 ev6 t_82 hin5 hc5 (by decide) rfl ?_
    obtain ⟨_, h9, hf⟩ := ob hf
    obtain ⟨σ7, v8, eσ7, hf⟩ := cb_el hf
    refine g_callVN_v dX5_order_40 (wX3_setProduct _ eσ7) (okX3_setProduct _ (by decide) (by decide)) (ckK_el h9) hc7 t_1057 t_1059 s_X3_setProduct rfl (Nat.le_trans (cat_le _) (Nat.le_of_ble_eq_true rfl)) rfl ?_
    refine g_aload_n (j := 0) dX5_order_43 rfl rfl ?_
    obtain ⟨v10, ev10, hf⟩ := ob hf
    refine g_getF dX5_order_44 ev10 t_169 hin9 hc9 (by decide) rfl ?_
    refine g_aload_n (j := 2) dX5_order_47 rfl rfl ?_
    obtain ⟨v11, ev11, hf⟩ := ob hf
    refine g_getFN dX5_order_48 ev11 t_77 hin5 hc5 (by decide) rfl ?_
    refine g_aload_n (j := 1) dX5_order_51 rfl rfl ?_
    obtain ⟨v12, ev12, hf⟩ := ob hf
    refine g_getFN dX5_order_52 ev12 t_82 hin5 hc5 (by decide) rfl ?_
    obtain ⟨_, h15, hf⟩ := ob hf
    obtain ⟨σ13, v14, eσ13, hf⟩ := cb_el hf
    refine g_callVN_v dX5_order_55 (wX3_setProduct _ eσ13) (okX3_setProduct _ (by decide) (by decide)) (ckK_el h15) hc7 t_1057 t_1059 s_X3_setProduct rfl (Nat.le_trans (cat_le _) (Nat.le_of_ble_eq_true rfl)) rfl ?_
    refine g_aload_n (j := 0) dX5_order_58 rfl rfl ?_
    obtain ⟨v16, ev16, hf⟩ := ob hf
    refine g_getF dX5_order_59 ev16 t_168 hin9 hc9 (by decide) rfl ?_
    refine g_aload_n (j := 0) dX5_order_62 rfl rfl ?_
    obtain ⟨v17, ev17, hf⟩ := ob hf
    refine g_getF dX5_order_63 ev17 t_169 hin9 hc9 (by decide) rfl ?_
    obtain ⟨_, h20, hf⟩ := ob hf
    obtain ⟨σ18, v19, eσ18, hf⟩ := cb_el hf
    refine g_callVN_i dX5_order_66 (wX3_against _ eσ18) (okX3_against _ (by decide) (by decide)) (ckK_el h20) hc7 t_908 t_910 s_X3_against rfl (Nat.le_trans (cat_le _) (Nat.le_of_ble_eq_true rfl)) rfl ?_
    refine g_aload_n (j := 1) dX5_order_69 rfl rfl ?_
    obtain ⟨v21, ev21, hf⟩ := ob hf
    refine g_getIN dX5_order_70 ev21 t_73 hin5 hc5 (by decide) rfl ?_
    refine g_imul dX5_order_73 ?_
    exact g_iret dX5_order_74 rfl rfl hX2 hX1 hf
  · rw [if_neg c3] at hf
    refine g_aload_n (j := 1) dX5_order_11 rfl rfl ?_
    obtain ⟨v22, ev22, hf⟩ := ob hf
    refine g_getIN dX5_order_12 ev22 t_73 hin5 hc5 (by decide) rfl ?_
    refine g_aload_n (j := 2) dX5_order_15 rfl rfl ?_
    obtain ⟨v23, ev23, hf⟩ := ob hf
    refine g_getIN dX5_order_16 ev23 t_73 hin5 hc5 (by decide) rfl ?_
    refine g_icmp_ge (tgt := 26) dX5_order_19 (by decide) (fun c24 => ?_) (fun c24 => ?_)
    · rw [if_pos c24] at hf
      refine g_iconst (v := 1) dX5_order_26 (by decide) ?_
      exact g_iret dX5_order_27 rfl rfl hX2 hX1 hf
    · rw [if_neg c24] at hf
      refine g_iconst (v := (-1)) dX5_order_22 (by decide) ?_
      refine g_goto (tgt := 27) dX5_order_23 (by decide) ?_
      exact g_iret dX5_order_27 rfl rfl hX2 hX1 hf

theorem okX5_order (M : Mt) (h1 : 3 + 1 ≤ M.2.2.2.2.1) (h2 : 8 + (3 + 11) + 131 ≤ M.2.2.2.2.2.1) : CallOk M MtX5_order yX5_order 2 := ⟨t_1213, h1, h2, ⟨by decide, by decide⟩, by decide +kernel, t_9⟩
abbrev MtX2_calculate : Mt := (cX2_calculate, 5, "ExactlySaid$Machine", none, 6, 251, false)
set_option maxRecDepth 100000 in
set_option maxHeartbeats 4000000 in
theorem bX2_calculate_390 {X : Xt} {σf : St} {r : Unit} (hX1 : X.2.2.1 = σf) (hX2 : X.2.2.2 = .inl (none)) {σ : St} {y0 : Nat} {y1 : Nat} (hf : fX2_calculate_390 σ y0 y1 = some (σf, r)) : G MtX2_calculate X σ 390 [] [rv y1, rv y0] := by
  unfold fX2_calculate_390 at hf
  obtain ⟨_, h3, hf⟩ := ob hf
  obtain ⟨σ1, v2, eσ1, hf⟩ := cb_el hf
  refine g_callVN_v dX2_calculate_390 (wX1_setTo _ eσ1) (okX1_setTo _ (by decide) (by decide)) (ckK_el h3) hc5 t_1130 t_1046 s_X1_setTo rfl (Nat.le_trans (cat_le _) (Nat.le_of_ble_eq_true rfl)) rfl ?_
  exact g_vret dX2_calculate_393 rfl hX2 hX1 hf

set_option maxRecDepth 100000 in
set_option maxHeartbeats 4000000 in
theorem bX2_calculate_382 {X : Xt} {σf : St} {r : Unit} (hX1 : X.2.2.1 = σf) (hX2 : X.2.2.2 = .inl (none)) {σ : St} {x2 : Nat} {x3 : Nat} {y0 : Nat} {y1 : Int32} {y2 : Int32} (hf : fX2_calculate_382 σ x2 x3 y0 y1 y2 = some (σf, r)) : G MtX2_calculate X σ 382 [(2, rv x2), (3, rv x3)] [.int y2, .int y1, rv y0] := by
  unfold fX2_calculate_382 at hf
  refine g_icmp_ne (tgt := 389) dX2_calculate_382 (by decide) (fun c1 => ?_) (fun c1 => ?_)
  · rw [if_neg c1] at hf
    refine g_aload_n (j := 1) dX2_calculate_389 rfl rfl ?_
    refine g_sub (L' := []) [] rfl ?_
    exact bX2_calculate_390 hX1 hX2 hf
  · rw [if_pos c1] at hf
    refine g_aload_n (j := 0) dX2_calculate_385 rfl rfl ?_
    refine g_goto (tgt := 390) dX2_calculate_386 (by decide) ?_
    refine g_sub (L' := []) [] rfl ?_
    exact bX2_calculate_390 hX1 hX2 hf

set_option maxRecDepth 100000 in
set_option maxHeartbeats 4000000 in
theorem bX2_calculate_371 {X : Xt} {σf : St} {r : Unit} (hX1 : X.2.2.1 = σf) (hX2 : X.2.2.2 = .inl (none)) {σ : St} {x1 : Int32} {x2 : Nat} {x3 : Nat} {y0 : Nat} {y1 : Int32} (hf : fX2_calculate_371 σ x1 x2 x3 y0 y1 = some (σf, r)) : G MtX2_calculate X σ 371 [(1, .int x1), (2, rv x2), (3, rv x3)] [.int y1, rv y0] := by
  unfold fX2_calculate_371 at hf
  refine g_iload_n (j := 0) dX2_calculate_371 rfl rfl ?_
  refine g_bipush (v := 19) dX2_calculate_372 (by decide) ?_
  refine g_icmp_ne (tgt := 381) dX2_calculate_374 (by decide) (fun c1 => ?_) (fun c1 => ?_)
  · rw [if_neg c1] at hf
    refine g_iconst (v := 0) dX2_calculate_381 (by decide) ?_
    refine g_sub (L' := [(2, rv x2), (3, rv x3)]) [1, 2] rfl ?_
    exact bX2_calculate_382 hX1 hX2 hf
  · rw [if_pos c1] at hf
    refine g_iconst (v := 1) dX2_calculate_377 (by decide) ?_
    refine g_goto (tgt := 382) dX2_calculate_378 (by decide) ?_
    refine g_sub (L' := [(2, rv x2), (3, rv x3)]) [1, 2] rfl ?_
    exact bX2_calculate_382 hX1 hX2 hf

set_option maxRecDepth 100000 in
set_option maxHeartbeats 4000000 in
theorem bX2_calculate_352 {X : Xt} {σf : St} {r : Unit} (hX1 : X.2.2.1 = σf) (hX2 : X.2.2.2 = .inl (none)) {σ : St} {x0 : Nat} {x1 : Int32} {x2 : Nat} {x3 : Nat} {x4 : Nat} (hf : fX2_calculate_352 σ x0 x1 x2 x3 x4 = some (σf, r)) : G MtX2_calculate X σ 352 [(0, rv x0), (1, .int x1), (2, rv x2), (3, rv x3), (4, rv x4)] [] := by
  unfold fX2_calculate_352 at hf
  refine g_aload_n (j := 0) dX2_calculate_352 rfl rfl ?_
  obtain ⟨v1, ev1, hf⟩ := ob hf
  refine g_getF dX2_calculate_353 ev1 t_300 hin6 hc6 (by decide) rfl ?_
  refine g_aload (j := 4) dX2_calculate_356 rfl ?_
  refine g_aload_n (j := 2) dX2_calculate_358 rfl rfl ?_
  refine g_aload_n (j := 3) dX2_calculate_359 rfl rfl ?_
  obtain ⟨_, h4, hf⟩ := ob hf
  obtain ⟨σ2, v3, eσ2, hf⟩ := cb_el hf
  refine g_callVN_i dX2_calculate_360 (wX5_order _ eσ2) (okX5_order _ (by decide) (by decide)) (ckK_el h4) hc9 t_1210 t_1212 s_X5_order rfl (Nat.le_trans (cat_le _) (Nat.le_of_ble_eq_true rfl)) rfl ?_
  refine g_if_ge (tgt := 370) dX2_calculate_363 (by decide) (fun c5 => ?_) (fun c5 => ?_)
  · rw [if_pos c5] at hf
    refine g_iconst (v := 0) dX2_calculate_370 (by decide) ?_
    refine g_sub (L' := [(1, .int x1), (2, rv x2), (3, rv x3)]) [1, 2, 3] rfl ?_
    exact bX2_calculate_371 hX1 hX2 hf
  · rw [if_neg c5] at hf
    refine g_iconst (v := 1) dX2_calculate_366 (by decide) ?_
    refine g_goto (tgt := 371) dX2_calculate_367 (by decide) ?_
    refine g_sub (L' := [(1, .int x1), (2, rv x2), (3, rv x3)]) [1, 2, 3] rfl ?_
    exact bX2_calculate_371 hX1 hX2 hf

set_option maxRecDepth 100000 in
set_option maxHeartbeats 4000000 in
theorem bX2_calculate_102 {X : Xt} {σf : St} {r : Unit} (hX1 : X.2.2.1 = σf) (hX2 : X.2.2.2 = .inl (none)) {σ : St} {x0 : Nat} {y0 : Nat} {y1 : Nat} {y2 : Nat} {y3 : Int32} (hf : fX2_calculate_102 σ x0 y0 y1 y2 y3 = some (σf, r)) : G MtX2_calculate X σ 102 [(0, rv x0)] [.int y3, rv y2, rv y1, rv y0] := by
  unfold fX2_calculate_102 at hf
  refine g_aload_n (j := 0) dX2_calculate_102 rfl rfl ?_
  obtain ⟨v1, ev1, hf⟩ := ob hf
  refine g_getF dX2_calculate_103 ev1 t_300 hin6 hc6 (by decide) rfl ?_
  obtain ⟨_, h4, hf⟩ := ob hf
  obtain ⟨σ2, v3, eσ2, hf⟩ := cb_el hf
  refine g_callVN_v dX2_calculate_106 (wX5_add _ eσ2) (okX5_add _ (by decide) (by decide)) (ckK_el h4) hc9 t_1157 t_1051 s_X5_add rfl (Nat.le_trans (cat_le _) (Nat.le_of_ble_eq_true rfl)) rfl ?_
  refine g_goto (tgt := 393) dX2_calculate_109 (by decide) ?_
  exact g_vret dX2_calculate_393 rfl hX2 hX1 hf

set_option maxRecDepth 100000 in
set_option maxHeartbeats 4000000 in
theorem bX2_calculate_88 {X : Xt} {σf : St} {r : Unit} (hX1 : X.2.2.1 = σf) (hX2 : X.2.2.2 = .inl (none)) {σ : St} {x0 : Nat} {x1 : Int32} {x2 : Nat} {x3 : Nat} {x4 : Nat} (hf : fX2_calculate_88 σ x0 x1 x2 x3 x4 = some (σf, r)) : G MtX2_calculate X σ 88 [(0, rv x0), (1, .int x1), (2, rv x2), (3, rv x3), (4, rv x4)] [] := by
  unfold fX2_calculate_88 at hf
  refine g_aload (j := 4) dX2_calculate_88 rfl ?_
  refine g_aload_n (j := 2) dX2_calculate_90 rfl rfl ?_
  refine g_aload_n (j := 3) dX2_calculate_91 rfl rfl ?_
  refine g_iload_n (j := 1) dX2_calculate_92 rfl rfl ?_
  refine g_iconst (v := 2) dX2_calculate_93 (by decide) ?_
  refine g_icmp_ne (tgt := 101) dX2_calculate_94 (by decide) (fun c1 => ?_) (fun c1 => ?_)
  · rw [if_neg c1] at hf
    refine g_iconst (v := 0) dX2_calculate_101 (by decide) ?_
    refine g_sub (L' := [(0, rv x0)]) [0] rfl ?_
    exact bX2_calculate_102 hX1 hX2 hf
  · rw [if_pos c1] at hf
    refine g_iconst (v := 1) dX2_calculate_97 (by decide) ?_
    refine g_goto (tgt := 102) dX2_calculate_98 (by decide) ?_
    refine g_sub (L' := [(0, rv x0)]) [0] rfl ?_
    exact bX2_calculate_102 hX1 hX2 hf

set_option maxRecDepth 100000 in
set_option maxHeartbeats 4000000 in
theorem bX2_calculate_240 {X : Xt} {σf : St} {r : Unit} (hX1 : X.2.2.1 = σf) (hX2 : X.2.2.2 = .inl (none)) {σ : St} {y0 : Nat} {y1 : Int32} (hf : fX2_calculate_240 σ y0 y1 = some (σf, r)) : G MtX2_calculate X σ 240 [] [.int y1, rv y0] := by
  unfold fX2_calculate_240 at hf
  obtain ⟨σ1, eσ1, hf⟩ := ob hf
  refine g_putI dX2_calculate_240 eσ1 (Or.inr ⟨_, t_74⟩) hin5 hc5 (by decide) hty5 hnm5 (Or.inl rfl) rfl rfl rfl ?_
  refine g_goto (tgt := 393) dX2_calculate_243 (by decide) ?_
  exact g_vret dX2_calculate_393 rfl hX2 hX1 hf

set_option maxRecDepth 100000 in
set_option maxHeartbeats 4000000 in
theorem bX2_calculate_207 {X : Xt} {σf : St} {r : Unit} (hX1 : X.2.2.1 = σf) (hX2 : X.2.2.2 = .inl (none)) {σ : St} {x0 : Nat} {x1 : Int32} {x2 : Nat} (hf : fX2_calculate_207 σ x0 x1 x2 = some (σf, r)) : G MtX2_calculate X σ 207 [(0, rv x0), (1, .int x1), (2, rv x2)] [] := by
  unfold fX2_calculate_207 at hf
  refine g_aload_n (j := 0) dX2_calculate_207 rfl rfl ?_
  obtain ⟨v1, ev1, hf⟩ := ob hf
  refine g_getF dX2_calculate_208 ev1 t_300 hin6 hc6 (by decide) rfl ?_
  refine g_aload_n (j := 2) dX2_calculate_211 rfl rfl ?_
  obtain ⟨_, h4, hf⟩ := ob hf
  obtain ⟨σ2, v3, eσ2, hf⟩ := cb_el hf
  refine g_callVN_v dX2_calculate_212 (wX1_setTo _ eσ2) (okX1_setTo _ (by decide) (by decide)) (ckK_el h4) hc5 t_1130 t_1046 s_X1_setTo rfl (Nat.le_trans (cat_le _) (Nat.le_of_ble_eq_true rfl)) rfl ?_
  refine g_aload_n (j := 0) dX2_calculate_215 rfl rfl ?_
  obtain ⟨v5, ev5, hf⟩ := ob hf
  refine g_getF dX2_calculate_216 ev5 t_300 hin6 hc6 (by decide) rfl ?_
  refine g_iload_n (j := 1) dX2_calculate_219 rfl rfl ?_
  refine g_bipush (v := 15) dX2_calculate_220 (by decide) ?_
  refine g_icmp_ne (tgt := 235) dX2_calculate_222 (by decide) (fun c6 => ?_) (fun c6 => ?_)
  · rw [if_neg c6] at hf
    refine g_aload_n (j := 2) dX2_calculate_235 rfl rfl ?_
    obtain ⟨v7, ev7, hf⟩ := ob hf
    refine g_getIN dX2_calculate_236 ev7 t_74 hin5 hc5 (by decide) rfl ?_
    refine g_ineg dX2_calculate_239 ?_
    refine g_sub (L' := []) [] rfl ?_
    exact bX2_calculate_240 hX1 hX2 hf
  · rw [if_pos c6] at hf
    refine g_aload_n (j := 2) dX2_calculate_225 rfl rfl ?_
    obtain ⟨v8, ev8, hf⟩ := ob hf
    refine g_getIN dX2_calculate_226 ev8 t_74 hin5 hc5 (by decide) rfl ?_
    refine g_mabs dX2_calculate_229 t_1191 t_1179 t_15 t_1180 (by decide) (by decide) (Nat.le_of_ble_eq_true rfl) ?_
    refine g_goto (tgt := 240) dX2_calculate_232 (by decide) ?_
    refine g_sub (L' := []) [] rfl ?_
    exact bX2_calculate_240 hX1 hX2 hf

set_option maxRecDepth 100000 in
set_option maxHeartbeats 4000000 in
theorem bX2_calculate_274 {X : Xt} {σf : St} {r : Unit} (hX1 : X.2.2.1 = σf) (hX2 : X.2.2.2 = .inl (none)) {σ : St} {x0 : Nat} {x1 : Int32} {x2 : Nat} {x4 : Nat} (hf : fX2_calculate_274 σ x0 x1 x2 x4 = some (σf, r)) : G MtX2_calculate X σ 274 [(0, rv x0), (1, .int x1), (2, rv x2), (4, rv x4)] [] := by
  unfold fX2_calculate_274 at hf
  refine g_aload (j := 3) dX2_calculate_274 rfl ?_
  refine g_aload_n (j := 2) dX2_calculate_276 rfl rfl ?_
  refine g_iload_n (j := 1) dX2_calculate_277 rfl rfl ?_
  refine g_aload_n (j := 0) dX2_calculate_278 rfl rfl ?_
  obtain ⟨v1, ev1, hf⟩ := ob hf
  refine g_getF dX2_calculate_279 ev1 t_300 hin6 hc6 (by decide) rfl ?_
  obtain ⟨_, h4, hf⟩ := ob hf
  obtain ⟨σ2, v3, eσ2, hf⟩ := cb_el hf
  refine g_callVN_v dX2_calculate_282 (wX5_round _ eσ2) (okX5_round _ (by decide) (by decide)) (ckK_el h4) hc9 t_1200 t_1020 s_X5_round rfl (Nat.le_trans (cat_le _) (Nat.le_of_ble_eq_true rfl)) rfl ?_
  refine g_goto (tgt := 393) dX2_calculate_285 (by decide) ?_
  exact g_vret dX2_calculate_393 rfl hX2 hX1 hf

set_option maxRecDepth 100000 in
set_option maxHeartbeats 4000000 in
theorem bX2_calculate_346 {X : Xt} {σf : St} {r : Unit} (hX1 : X.2.2.1 = σf) (hX2 : X.2.2.2 = .inl (none)) {σ : St} {y0 : Nat} {y1 : Nat} {y2 : Int32} (hf : fX2_calculate_346 σ y0 y1 y2 = some (σf, r)) : G MtX2_calculate X σ 346 [] [.int y2, rv y1, rv y0] := by
  unfold fX2_calculate_346 at hf
  obtain ⟨_, h3, hf⟩ := ob hf
  obtain ⟨σ1, v2, eσ1, hf⟩ := cb_el hf
  refine g_callVN_v dX2_calculate_346 (wX1_setWhole _ eσ1) (okX1_setWhole _ (by decide) (by decide)) (ckK_el h3) hc5 t_1205 t_1207 s_X1_setWhole rfl (Nat.le_trans (cat_le _) (Nat.le_of_ble_eq_true rfl)) rfl ?_
  refine g_goto (tgt := 393) dX2_calculate_349 (by decide) ?_
  exact g_vret dX2_calculate_393 rfl hX2 hX1 hf

set_option maxRecDepth 100000 in
set_option maxHeartbeats 4000000 in
theorem bX2_calculate_332 {X : Xt} {σf : St} {r : Unit} (hX1 : X.2.2.1 = σf) (hX2 : X.2.2.2 = .inl (none)) {σ : St} {x1 : Int32} {x2 : Nat} {y0 : Nat} {y1 : Nat} (hf : fX2_calculate_332 σ x1 x2 y0 y1 = some (σf, r)) : G MtX2_calculate X σ 332 [(1, .int x1), (2, rv x2)] [rv y1, rv y0] := by
  unfold fX2_calculate_332 at hf
  refine g_iload_n (j := 0) dX2_calculate_332 rfl rfl ?_
  refine g_bipush (v := 17) dX2_calculate_333 (by decide) ?_
  refine g_icmp_ne (tgt := 345) dX2_calculate_335 (by decide) (fun c1 => ?_) (fun c1 => ?_)
  · rw [if_neg c1] at hf
    refine g_iconst (v := 1) dX2_calculate_345 (by decide) ?_
    refine g_sub (L' := []) [] rfl ?_
    exact bX2_calculate_346 hX1 hX2 hf
  · rw [if_pos c1] at hf
    refine g_aload_n (j := 1) dX2_calculate_338 rfl rfl ?_
    obtain ⟨v2, ev2, hf⟩ := ob hf
    refine g_getIN dX2_calculate_339 ev2 t_74 hin5 hc5 (by decide) rfl ?_
    refine g_goto (tgt := 346) dX2_calculate_342 (by decide) ?_
    refine g_sub (L' := []) [] rfl ?_
    exact bX2_calculate_346 hX1 hX2 hf

set_option maxRecDepth 100000 in
set_option maxHeartbeats 4000000 in
theorem bX2_calculate_311 {X : Xt} {σf : St} {r : Unit} (hX1 : X.2.2.1 = σf) (hX2 : X.2.2.2 = .inl (none)) {σ : St} {x0 : Nat} {x1 : Int32} {x2 : Nat} (hf : fX2_calculate_311 σ x0 x1 x2 = some (σf, r)) : G MtX2_calculate X σ 311 [(0, rv x0), (1, .int x1), (2, rv x2)] [] := by
  unfold fX2_calculate_311 at hf
  refine g_aload_n (j := 0) dX2_calculate_311 rfl rfl ?_
  obtain ⟨v1, ev1, hf⟩ := ob hf
  refine g_getF dX2_calculate_312 ev1 t_300 hin6 hc6 (by decide) rfl ?_
  refine g_iload_n (j := 1) dX2_calculate_315 rfl rfl ?_
  refine g_bipush (v := 17) dX2_calculate_316 (by decide) ?_
  refine g_icmp_ne (tgt := 328) dX2_calculate_318 (by decide) (fun c2 => ?_) (fun c2 => ?_)
  · rw [if_neg c2] at hf
    refine g_aload_n (j := 2) dX2_calculate_328 rfl rfl ?_
    obtain ⟨v3, ev3, hf⟩ := ob hf
    refine g_getFN dX2_calculate_329 ev3 t_83 hin5 hc5 (by decide) rfl ?_
    refine g_sub (L' := [(1, .int x1), (2, rv x2)]) [1, 2] rfl ?_
    exact bX2_calculate_332 hX1 hX2 hf
  · rw [if_pos c2] at hf
    refine g_aload_n (j := 2) dX2_calculate_321 rfl rfl ?_
    obtain ⟨v4, ev4, hf⟩ := ob hf
    refine g_getFN dX2_calculate_322 ev4 t_78 hin5 hc5 (by decide) rfl ?_
    refine g_goto (tgt := 332) dX2_calculate_325 (by decide) ?_
    refine g_sub (L' := [(1, .int x1), (2, rv x2)]) [1, 2] rfl ?_
    exact bX2_calculate_332 hX1 hX2 hf

set_option maxRecDepth 100000 in
set_option maxHeartbeats 4000000 in
theorem wX2_calculate (l : Launch) {σ σf : St} {x0 : Nat} {x1 : Int32} {x2 : Nat} {x3 : Nat} {x4 : Nat} {r : Unit} (hf : fX2_calculate σ x0 x1 x2 x3 x4 = some (σf, r)) : Con MtX2_calculate yX2_calculate l σ [rv x0, .int x1, rv x2, rv x3, rv x4] σf (none) := by
  refine Con.of (by decide +kernel) rfl (fun h => absurd (show false = true from h) (by decide)) (by simp only [sl_n, sl_r, sl_i, sl_l]; exact Nat.le_of_ble_eq_true rfl) ?_
  rw [show lv_args 0 [rv x0, .int x1, rv x2, rv x3, rv x4] = [(0, rv x0), (1, .int x1), (2, rv x2), (3, rv x3), (4, rv x4)] by simp only [la_n, la_r, la_i, la_l] <;> rfl]
  have hX1 : ((l, σ, σf, .inl (none)) : Xt).2.2.1 = σf := rfl
  have hX2 : ((l, σ, σf, .inl (none)) : Xt).2.2.2 = .inl (none) := rfl
  unfold fX2_calculate at hf
  refine g_iload_n (j := 1) dX2_calculate_0 rfl rfl ?_
  by_cases c1 : x1 = 1
  · rw [if_pos c1] at hf
    refine g_tsIn (tgt := 88) dX2_calculate_1 c1 (by decide) (by decide) rfl (by decide) ?_
    exact bX2_calculate_88 hX1 hX2 hf
  · rw [if_neg c1] at hf
    by_cases c2 : x1 = 2
    · rw [if_pos c2] at hf
      refine g_tsIn (tgt := 88) dX2_calculate_1 c2 (by decide) (by decide) rfl (by decide) ?_
      exact bX2_calculate_88 hX1 hX2 hf
    · rw [if_neg c2] at hf
      by_cases c3 : x1 = 3
      · rw [if_pos c3] at hf
        refine g_tsIn (tgt := 112) dX2_calculate_1 c3 (by decide) (by decide) rfl (by decide) ?_
        refine g_aload (j := 4) dX2_calculate_112 rfl ?_
        refine g_aload_n (j := 2) dX2_calculate_114 rfl rfl ?_
        refine g_aload_n (j := 3) dX2_calculate_115 rfl rfl ?_
        refine g_aload_n (j := 0) dX2_calculate_116 rfl rfl ?_
        obtain ⟨v4, ev4, hf⟩ := ob hf
        refine g_getF dX2_calculate_117 ev4 t_300 hin6 hc6 (by decide) rfl ?_
        obtain ⟨_, h7, hf⟩ := ob hf
        obtain ⟨σ5, v6, eσ5, hf⟩ := cb_el hf
        refine g_callVN_v dX2_calculate_120 (wX5_multiply _ eσ5) (okX5_multiply _ (by decide) (by decide)) (ckK_el h7) hc9 t_1158 t_1160 s_X5_multiply rfl (Nat.le_trans (cat_le _) (Nat.le_of_ble_eq_true rfl)) rfl ?_
        refine g_goto (tgt := 393) dX2_calculate_123 (by decide) ?_
        exact g_vret dX2_calculate_393 rfl hX2 hX1 hf
      · rw [if_neg c3] at hf
        by_cases c8 : x1 = 4
        · rw [if_pos c8] at hf
          refine g_tsIn (tgt := 126) dX2_calculate_1 c8 (by decide) (by decide) rfl (by decide) ?_
          refine g_aload (j := 4) dX2_calculate_126 rfl ?_
          refine g_aload_n (j := 2) dX2_calculate_128 rfl rfl ?_
          refine g_aload (j := 4) dX2_calculate_129 rfl ?_
          refine g_aload_n (j := 3) dX2_calculate_131 rfl rfl ?_
          obtain ⟨_, h11, hf⟩ := ob hf
          obtain ⟨σ9, a10, eσ9, hf⟩ := cb_el hf
          refine g_callVN_q dX2_calculate_132 (wX5_inverse _ eσ9) (okX5_inverse _ (by decide) (by decide)) (ckK_el h11) hc9 t_1162 t_1164 s_X5_inverse rfl (Nat.le_trans (cat_le _) (Nat.le_of_ble_eq_true rfl)) rfl ?_
          refine g_aload_n (j := 0) dX2_calculate_135 rfl rfl ?_
          obtain ⟨v12, ev12, hf⟩ := ob hf
          refine g_getF dX2_calculate_136 ev12 t_300 hin6 hc6 (by decide) rfl ?_
          obtain ⟨_, h15, hf⟩ := ob hf
          obtain ⟨σ13, v14, eσ13, hf⟩ := cb_el hf
          refine g_callVN_v dX2_calculate_139 (wX5_multiply _ eσ13) (okX5_multiply _ (by decide) (by decide)) (ckK_el h15) hc9 t_1158 t_1160 s_X5_multiply rfl (Nat.le_trans (cat_le _) (Nat.le_of_ble_eq_true rfl)) rfl ?_
          refine g_goto (tgt := 393) dX2_calculate_142 (by decide) ?_
          exact g_vret dX2_calculate_393 rfl hX2 hX1 hf
        · rw [if_neg c8] at hf
          by_cases c16 : x1 = 5
          · rw [if_pos c16] at hf
            refine g_tsIn (tgt := 145) dX2_calculate_1 c16 (by decide) (by decide) rfl (by decide) ?_
            refine g_aload (j := 4) dX2_calculate_145 rfl ?_
            refine g_aload_n (j := 2) dX2_calculate_147 rfl rfl ?_
            refine g_aload_n (j := 3) dX2_calculate_148 rfl rfl ?_
            refine g_aload_n (j := 0) dX2_calculate_149 rfl rfl ?_
            obtain ⟨v17, ev17, hf⟩ := ob hf
            refine g_getF dX2_calculate_150 ev17 t_300 hin6 hc6 (by decide) rfl ?_
            obtain ⟨_, h20, hf⟩ := ob hf
            obtain ⟨σ18, v19, eσ18, hf⟩ := cb_el hf
            refine g_callVN_v dX2_calculate_153 (wX5_remain _ eσ18) (okX5_remain _ (by decide) (by decide)) (ckK_el h20) hc9 t_1166 t_1168 s_X5_remain rfl (Nat.le_trans (cat_le _) (Nat.le_of_ble_eq_true rfl)) rfl ?_
            refine g_aload (j := 4) dX2_calculate_156 rfl ?_
            refine g_aload_n (j := 0) dX2_calculate_158 rfl rfl ?_
            obtain ⟨v21, ev21, hf⟩ := ob hf
            refine g_getF dX2_calculate_159 ev21 t_300 hin6 hc6 (by decide) rfl ?_
            obtain ⟨_, h24, hf⟩ := ob hf
            obtain ⟨σ22, v23, eσ22, hf⟩ := cb_el hf
            refine g_callVN_v dX2_calculate_162 (wX5_reduce _ eσ22) (okX5_reduce _ (by decide) (by decide)) (ckK_el h24) hc9 t_1170 t_1172 s_X5_reduce rfl (Nat.le_trans (cat_le _) (Nat.le_of_ble_eq_true rfl)) rfl ?_
            refine g_goto (tgt := 393) dX2_calculate_165 (by decide) ?_
            exact g_vret dX2_calculate_393 rfl hX2 hX1 hf
          · rw [if_neg c16] at hf
            by_cases c25 : x1 = 6
            · rw [if_pos c25] at hf
              refine g_tsIn (tgt := 168) dX2_calculate_1 c25 (by decide) (by decide) rfl (by decide) ?_
              refine g_aload (j := 4) dX2_calculate_168 rfl ?_
              refine g_aload_n (j := 2) dX2_calculate_170 rfl rfl ?_
              refine g_aload_n (j := 3) dX2_calculate_171 rfl rfl ?_
              obtain ⟨v26, ev26, hf⟩ := ob hf
              refine g_getIN dX2_calculate_172 ev26 t_74 hin5 hc5 (by decide) rfl ?_
              refine g_aload_n (j := 3) dX2_calculate_175 rfl rfl ?_
              obtain ⟨v27, ev27, hf⟩ := ob hf
              refine g_getFN dX2_calculate_176 ev27 t_78 hin5 hc5 (by decide) rfl ?_
              refine g_iconst (v := 0) dX2_calculate_179 (by decide) ?_
              obtain ⟨_, h30, hf⟩ := ob hf
              obtain ⟨σ28, v29, eσ28, hf⟩ := cb_el hf
              refine g_callVN_i dX2_calculate_180 (wX3_limb _ eσ28) (okX3_limb _ (by decide) (by decide)) (ckK_el h30) hc7 t_1152 t_848 s_X3_limb rfl (Nat.le_trans (cat_le _) (Nat.le_of_ble_eq_true rfl)) rfl ?_
              refine g_imul dX2_calculate_183 ?_
              refine g_aload_n (j := 0) dX2_calculate_184 rfl rfl ?_
              obtain ⟨v31, ev31, hf⟩ := ob hf
              refine g_getF dX2_calculate_185 ev31 t_300 hin6 hc6 (by decide) rfl ?_
              obtain ⟨_, h34, hf⟩ := ob hf
              obtain ⟨σ32, v33, eσ32, hf⟩ := cb_el hf
              refine g_callVN_v dX2_calculate_188 (wX5_power _ eσ32) (okX5_power _ (by decide) (by decide)) (ckK_el h34) hc9 t_1174 t_1176 s_X5_power rfl (Nat.le_trans (cat_le _) (Nat.le_of_ble_eq_true rfl)) rfl ?_
              refine g_goto (tgt := 393) dX2_calculate_191 (by decide) ?_
              exact g_vret dX2_calculate_393 rfl hX2 hX1 hf
            · rw [if_neg c25] at hf
              by_cases c35 : x1 = 7
              · rw [if_pos c35] at hf
                refine g_tsIn (tgt := 194) dX2_calculate_1 c35 (by decide) (by decide) rfl (by decide) ?_
                refine g_aload (j := 4) dX2_calculate_194 rfl ?_
                refine g_aload_n (j := 2) dX2_calculate_196 rfl rfl ?_
                refine g_aload_n (j := 0) dX2_calculate_197 rfl rfl ?_
                obtain ⟨v36, ev36, hf⟩ := ob hf
                refine g_getF dX2_calculate_198 ev36 t_300 hin6 hc6 (by decide) rfl ?_
                obtain ⟨_, h39, hf⟩ := ob hf
                obtain ⟨σ37, v38, eσ37, hf⟩ := cb_el hf
                refine g_callVN_v dX2_calculate_201 (wX5_factorial _ eσ37) (okX5_factorial _ (by decide) (by decide)) (ckK_el h39) hc9 t_1186 t_1188 s_X5_factorial rfl (Nat.le_trans (cat_le _) (Nat.le_of_ble_eq_true rfl)) rfl ?_
                refine g_goto (tgt := 393) dX2_calculate_204 (by decide) ?_
                exact g_vret dX2_calculate_393 rfl hX2 hX1 hf
              · rw [if_neg c35] at hf
                by_cases c40 : x1 = 8
                · rw [if_pos c40] at hf
                  refine g_tsIn (tgt := 207) dX2_calculate_1 c40 (by decide) (by decide) rfl (by decide) ?_
                  refine g_sub (L' := [(0, rv x0), (1, .int x1), (2, rv x2)]) [0, 1, 2] rfl ?_
                  exact bX2_calculate_207 hX1 hX2 hf
                · rw [if_neg c40] at hf
                  by_cases c41 : x1 = 9
                  · rw [if_pos c41] at hf
                    refine g_tsIn (tgt := 352) dX2_calculate_1 c41 (by decide) (by decide) rfl (by decide) ?_
                    exact bX2_calculate_352 hX1 hX2 hf
                  · rw [if_neg c41] at hf
                    by_cases c42 : x1 = 10
                    · rw [if_pos c42] at hf
                      refine g_tsIn (tgt := 246) dX2_calculate_1 c42 (by decide) (by decide) rfl (by decide) ?_
                      refine g_aload (j := 4) dX2_calculate_246 rfl ?_
                      refine g_aload_n (j := 2) dX2_calculate_248 rfl rfl ?_
                      refine g_aload_n (j := 3) dX2_calculate_249 rfl rfl ?_
                      refine g_aload_n (j := 0) dX2_calculate_250 rfl rfl ?_
                      obtain ⟨v43, ev43, hf⟩ := ob hf
                      refine g_getF dX2_calculate_251 ev43 t_300 hin6 hc6 (by decide) rfl ?_
                      obtain ⟨_, h46, hf⟩ := ob hf
                      obtain ⟨σ44, v45, eσ44, hf⟩ := cb_el hf
                      refine g_callVN_v dX2_calculate_254 (wX5_commonDivisor _ eσ44) (okX5_commonDivisor _ (by decide) (by decide)) (ckK_el h46) hc9 t_1192 t_1194 s_X5_commonDivisor rfl (Nat.le_trans (cat_le _) (Nat.le_of_ble_eq_true rfl)) rfl ?_
                      refine g_goto (tgt := 393) dX2_calculate_257 (by decide) ?_
                      exact g_vret dX2_calculate_393 rfl hX2 hX1 hf
                    · rw [if_neg c42] at hf
                      by_cases c47 : x1 = 11
                      · rw [if_pos c47] at hf
                        refine g_tsIn (tgt := 260) dX2_calculate_1 c47 (by decide) (by decide) rfl (by decide) ?_
                        refine g_aload (j := 4) dX2_calculate_260 rfl ?_
                        refine g_aload_n (j := 2) dX2_calculate_262 rfl rfl ?_
                        refine g_aload_n (j := 3) dX2_calculate_263 rfl rfl ?_
                        refine g_aload_n (j := 0) dX2_calculate_264 rfl rfl ?_
                        obtain ⟨v48, ev48, hf⟩ := ob hf
                        refine g_getF dX2_calculate_265 ev48 t_300 hin6 hc6 (by decide) rfl ?_
                        obtain ⟨_, h51, hf⟩ := ob hf
                        obtain ⟨σ49, v50, eσ49, hf⟩ := cb_el hf
                        refine g_callVN_v dX2_calculate_268 (wX5_commonMultiple _ eσ49) (okX5_commonMultiple _ (by decide) (by decide)) (ckK_el h51) hc9 t_1196 t_1198 s_X5_commonMultiple rfl (Nat.le_trans (cat_le _) (Nat.le_of_ble_eq_true rfl)) rfl ?_
                        refine g_goto (tgt := 393) dX2_calculate_271 (by decide) ?_
                        exact g_vret dX2_calculate_393 rfl hX2 hX1 hf
                      · rw [if_neg c47] at hf
                        by_cases c52 : x1 = 12
                        · rw [if_pos c52] at hf
                          refine g_tsIn (tgt := 274) dX2_calculate_1 c52 (by decide) (by decide) rfl (by decide) ?_
                          refine g_sub (L' := [(0, rv x0), (1, .int x1), (2, rv x2), (4, rv x4)]) [0, 1, 2, 4] rfl ?_
                          exact bX2_calculate_274 hX1 hX2 hf
                        · rw [if_neg c52] at hf
                          by_cases c53 : x1 = 13
                          · rw [if_pos c53] at hf
                            refine g_tsIn (tgt := 274) dX2_calculate_1 c53 (by decide) (by decide) rfl (by decide) ?_
                            refine g_sub (L' := [(0, rv x0), (1, .int x1), (2, rv x2), (4, rv x4)]) [0, 1, 2, 4] rfl ?_
                            exact bX2_calculate_274 hX1 hX2 hf
                          · rw [if_neg c53] at hf
                            by_cases c54 : x1 = 14
                            · rw [if_pos c54] at hf
                              refine g_tsIn (tgt := 274) dX2_calculate_1 c54 (by decide) (by decide) rfl (by decide) ?_
                              refine g_sub (L' := [(0, rv x0), (1, .int x1), (2, rv x2), (4, rv x4)]) [0, 1, 2, 4] rfl ?_
                              exact bX2_calculate_274 hX1 hX2 hf
                            · rw [if_neg c54] at hf
                              by_cases c55 : x1 = 15
                              · rw [if_pos c55] at hf
                                refine g_tsIn (tgt := 207) dX2_calculate_1 c55 (by decide) (by decide) rfl (by decide) ?_
                                refine g_sub (L' := [(0, rv x0), (1, .int x1), (2, rv x2)]) [0, 1, 2] rfl ?_
                                exact bX2_calculate_207 hX1 hX2 hf
                              · rw [if_neg c55] at hf
                                by_cases c56 : x1 = 16
                                · rw [if_pos c56] at hf
                                  refine g_tsIn (tgt := 288) dX2_calculate_1 c56 (by decide) (by decide) rfl (by decide) ?_
                                  refine g_aload (j := 4) dX2_calculate_288 rfl ?_
                                  refine g_aload_n (j := 2) dX2_calculate_290 rfl rfl ?_
                                  refine g_aload_n (j := 3) dX2_calculate_291 rfl rfl ?_
                                  refine g_aload_n (j := 0) dX2_calculate_292 rfl rfl ?_
                                  obtain ⟨v57, ev57, hf⟩ := ob hf
                                  refine g_getF dX2_calculate_293 ev57 t_300 hin6 hc6 (by decide) rfl ?_
                                  obtain ⟨_, h60, hf⟩ := ob hf
                                  obtain ⟨σ58, v59, eσ58, hf⟩ := cb_el hf
                                  refine g_callVN_v dX2_calculate_296 (wX5_mediate _ eσ58) (okX5_mediate _ (by decide) (by decide)) (ckK_el h60) hc9 t_1201 t_1203 s_X5_mediate rfl (Nat.le_trans (cat_le _) (Nat.le_of_ble_eq_true rfl)) rfl ?_
                                  refine g_aload (j := 4) dX2_calculate_299 rfl ?_
                                  refine g_aload_n (j := 0) dX2_calculate_301 rfl rfl ?_
                                  obtain ⟨v61, ev61, hf⟩ := ob hf
                                  refine g_getF dX2_calculate_302 ev61 t_300 hin6 hc6 (by decide) rfl ?_
                                  obtain ⟨_, h64, hf⟩ := ob hf
                                  obtain ⟨σ62, v63, eσ62, hf⟩ := cb_el hf
                                  refine g_callVN_v dX2_calculate_305 (wX5_reduce _ eσ62) (okX5_reduce _ (by decide) (by decide)) (ckK_el h64) hc9 t_1170 t_1172 s_X5_reduce rfl (Nat.le_trans (cat_le _) (Nat.le_of_ble_eq_true rfl)) rfl ?_
                                  refine g_goto (tgt := 393) dX2_calculate_308 (by decide) ?_
                                  exact g_vret dX2_calculate_393 rfl hX2 hX1 hf
                                · rw [if_neg c56] at hf
                                  by_cases c65 : x1 = 17
                                  · rw [if_pos c65] at hf
                                    refine g_tsIn (tgt := 311) dX2_calculate_1 c65 (by decide) (by decide) rfl (by decide) ?_
                                    refine g_sub (L' := [(0, rv x0), (1, .int x1), (2, rv x2)]) [0, 1, 2] rfl ?_
                                    exact bX2_calculate_311 hX1 hX2 hf
                                  · rw [if_neg c65] at hf
                                    by_cases c66 : x1 = 18
                                    · rw [if_pos c66] at hf
                                      refine g_tsIn (tgt := 311) dX2_calculate_1 c66 (by decide) (by decide) rfl (by decide) ?_
                                      refine g_sub (L' := [(0, rv x0), (1, .int x1), (2, rv x2)]) [0, 1, 2] rfl ?_
                                      exact bX2_calculate_311 hX1 hX2 hf
                                    · rw [if_neg c66] at hf
                                      have qc1 := lv_neT c1 (k := 1) (a := 1) rfl
                                      have qc2 := lv_neT c2 (k := 2) (a := 2) rfl
                                      have qc3 := lv_neT c3 (k := 3) (a := 3) rfl
                                      have qc8 := lv_neT c8 (k := 4) (a := 4) rfl
                                      have qc16 := lv_neT c16 (k := 5) (a := 5) rfl
                                      have qc25 := lv_neT c25 (k := 6) (a := 6) rfl
                                      have qc35 := lv_neT c35 (k := 7) (a := 7) rfl
                                      have qc40 := lv_neT c40 (k := 8) (a := 8) rfl
                                      have qc41 := lv_neT c41 (k := 9) (a := 9) rfl
                                      have qc42 := lv_neT c42 (k := 10) (a := 10) rfl
                                      have qc47 := lv_neT c47 (k := 11) (a := 11) rfl
                                      have qc52 := lv_neT c52 (k := 12) (a := 12) rfl
                                      have qc53 := lv_neT c53 (k := 13) (a := 13) rfl
                                      have qc54 := lv_neT c54 (k := 14) (a := 14) rfl
                                      have qc55 := lv_neT c55 (k := 15) (a := 15) rfl
                                      have qc56 := lv_neT c56 (k := 16) (a := 16) rfl
                                      have qc65 := lv_neT c65 (k := 17) (a := 17) rfl
                                      have qc66 := lv_neT c66 (k := 18) (a := 18) rfl
                                      refine g_tsOut (tgt := 352) dX2_calculate_1 (by omega) (by decide) ?_
                                      exact bX2_calculate_352 hX1 hX2 hf

theorem okX2_calculate (M : Mt) (h1 : 6 + 1 ≤ M.2.2.2.2.1) (h2 : 8 + (5 + 11) + 251 ≤ M.2.2.2.2.2.1) : CallOk M MtX2_calculate yX2_calculate 4 := ⟨t_1156, h1, h2, ⟨by decide, by decide⟩, by decide +kernel, t_11⟩
abbrev MtX2_work : Mt := (cX2_work, 10, "ExactlySaid$Machine", (Option.some Jvm.ClassFile.FieldType.int), 7, 275, false)
set_option maxRecDepth 100000 in
set_option maxHeartbeats 4000000 in
theorem bX2_work_259 {X : Xt} {σf : St} {r : Int32} (hX1 : X.2.2.1 = σf) (hX2 : X.2.2.2 = .inl (some (.int r))) {k24 : St → Nat → Nat → Nat → Nat → Int32 → Option (St × Int32)} (hk24 : ∀ (σ : St) (x0 : Nat) (x2 : Nat) (x3 : Nat) (x4 : Nat) (x5 : Int32), k24 σ x0 x2 x3 x4 x5 = some (σf, r) → G MtX2_work X σ 24 [(0, rv x0), (2, rv x2), (3, rv x3), (4, rv x4), (5, .int x5)] []) {σ : St} {x0 : Nat} {x2 : Nat} {x3 : Nat} {x4 : Nat} {x5 : Int32} {x8 : Int32} (hf : fX2_work_259 k24 σ x0 x2 x3 x4 x5 x8 = some (σf, r)) : G MtX2_work X σ 259 [(0, rv x0), (2, rv x2), (3, rv x3), (4, rv x4), (5, .int x5), (8, .int x8)] [] := by
  unfold fX2_work_259 at hf
  refine g_iload (j := 5) dX2_work_259 rfl ?_
  refine g_if_eq (tgt := 267) dX2_work_261 (by decide) (fun c1 => ?_) (fun c1 => ?_)
  · rw [if_pos c1] at hf
    obtain ⟨v2, ev2, hf⟩ := nm_el hf
    refine g_iinc (L' := [(5, .int v2), (0, rv x0), (2, rv x2), (3, rv x3), (4, rv x4), (8, .int x8)]) (j := 4) (v := v2) dX2_work_267 rfl (by rw [ev2]; rfl) (Nat.le_of_ble_eq_true rfl) (by simp [rv_cat]) ?_
    refine g_goto (tgt := 24) dX2_work_270 (by decide) ?_
    refine g_sub (L' := [(0, rv x0), (2, rv x2), (3, rv x3), (4, rv x4), (5, .int v2)]) [1, 2, 3, 4, 0] rfl ?_
    exact hk24 _ _ _ _ _ _ hf
  · rw [if_neg c1] at hf
    refine g_iload (j := 5) dX2_work_264 rfl ?_
    exact g_iret dX2_work_266 rfl rfl hX2 hX1 hf

set_option maxRecDepth 100000 in
set_option maxHeartbeats 4000000 in
theorem bX2_work_257 {X : Xt} {σf : St} {r : Int32} (hX1 : X.2.2.1 = σf) (hX2 : X.2.2.2 = .inl (some (.int r))) {k24 : St → Nat → Nat → Nat → Nat → Int32 → Option (St × Int32)} (hk24 : ∀ (σ : St) (x0 : Nat) (x2 : Nat) (x3 : Nat) (x4 : Nat) (x5 : Int32), k24 σ x0 x2 x3 x4 x5 = some (σf, r) → G MtX2_work X σ 24 [(0, rv x0), (2, rv x2), (3, rv x3), (4, rv x4), (5, .int x5)] []) {σ : St} {x0 : Nat} {x2 : Nat} {x3 : Nat} {x4 : Nat} {x5 : Int32} {y0 : Int32} (hf : fX2_work_257 k24 σ x0 x2 x3 x4 x5 y0 = some (σf, r)) : G MtX2_work X σ 257 [(0, rv x0), (2, rv x2), (3, rv x3), (4, rv x4), (5, .int x5)] [.int y0] := by
  unfold fX2_work_257 at hf
  refine g_istore (i := 8) (L' := [(8, .int y0), (0, rv x0), (2, rv x2), (3, rv x3), (4, rv x4), (5, .int x5)]) dX2_work_257 (Nat.le_of_ble_eq_true rfl) rfl ?_
  refine g_sub (L' := [(0, rv x0), (2, rv x2), (3, rv x3), (4, rv x4), (5, .int x5), (8, .int y0)]) [1, 2, 3, 4, 5, 0] rfl ?_
  exact bX2_work_259 hX1 hX2 hk24 hf

set_option maxRecDepth 100000 in
set_option maxHeartbeats 4000000 in
theorem bX2_work_115 {X : Xt} {σf : St} {r : Int32} (hX1 : X.2.2.1 = σf) (hX2 : X.2.2.2 = .inl (some (.int r))) {k24 : St → Nat → Nat → Nat → Nat → Int32 → Option (St × Int32)} (hk24 : ∀ (σ : St) (x0 : Nat) (x2 : Nat) (x3 : Nat) (x4 : Nat) (x5 : Int32), k24 σ x0 x2 x3 x4 x5 = some (σf, r) → G MtX2_work X σ 24 [(0, rv x0), (2, rv x2), (3, rv x3), (4, rv x4), (5, .int x5)] []) {σ : St} {x0 : Nat} {x2 : Nat} {x3 : Nat} {x4 : Nat} {x5 : Int32} {x6 : Nat} {x7 : Int32} (hf : fX2_work_115 k24 σ x0 x2 x3 x4 x5 x6 x7 = some (σf, r)) : G MtX2_work X σ 115 [(0, rv x0), (2, rv x2), (3, rv x3), (4, rv x4), (5, .int x5), (6, rv x6), (7, .int x7)] [] := by
  unfold fX2_work_115 at hf
  refine g_aload (j := 5) dX2_work_115 rfl ?_
  obtain ⟨v1, ev1, hf⟩ := ob hf
  refine g_getFN dX2_work_117 ev1 t_1445 hin13 hc13 (by decide) rfl ?_
  refine g_iload (j := 6) dX2_work_120 rfl ?_
  obtain ⟨v2, ev2, hf⟩ := ob hf
  refine g_iald dX2_work_122 ev2 ?_
  refine g_istore (i := 9) (L' := [(9, .int v2), (0, rv x0), (2, rv x2), (3, rv x3), (4, rv x4), (5, .int x5), (6, rv x6), (7, .int x7)]) dX2_work_123 (Nat.le_of_ble_eq_true rfl) rfl ?_
  refine g_iload (j := 0) dX2_work_125 rfl ?_
  refine g_bipush (v := 9) dX2_work_127 (by decide) ?_
  refine g_icmp_ne (tgt := 158) dX2_work_129 (by decide) (fun c3 => ?_) (fun c3 => ?_)
  · rw [if_neg c3] at hf
    refine g_iload (j := 0) dX2_work_158 rfl ?_
    refine g_bipush (v := 21) dX2_work_160 (by decide) ?_
    refine g_icmp_lt (tgt := 183) dX2_work_162 (by decide) (fun c4 => ?_) (fun c4 => ?_)
    · rw [if_pos c4] at hf
      refine g_aload_n (j := 1) dX2_work_183 rfl rfl ?_
      refine g_iload (j := 0) dX2_work_184 rfl ?_
      obtain ⟨_, h7, hf⟩ := ob hf
      obtain ⟨σ5, v6, eσ5, hf⟩ := cb_el hf
      refine g_callV_i dX2_work_186 (wX2_objection _ eσ5) (okX2_objection _ (by decide) (by decide)) (ckK_el h7) hc6 t_1144 t_1146 s_X2_objection rfl (Nat.le_trans (cat_le _) (Nat.le_of_ble_eq_true rfl)) rfl ?_
      refine g_istore (i := 8) (L' := [(8, .int v6), (9, .int v2), (0, rv x0), (2, rv x2), (3, rv x3), (4, rv x4), (5, .int x5), (6, rv x6), (7, .int x7)]) dX2_work_189 (Nat.le_of_ble_eq_true rfl) rfl ?_
      refine g_iload (j := 0) dX2_work_191 rfl ?_
      refine g_if_ne (tgt := 259) dX2_work_193 (by decide) (fun c8 => ?_) (fun c8 => ?_)
      · rw [if_neg c8] at hf
        refine g_sub (L' := [(0, rv x0), (2, rv x2), (3, rv x3), (4, rv x4), (5, .int x5), (8, .int v6)]) [2, 3, 4, 5, 6, 0] rfl ?_
        exact bX2_work_259 hX1 hX2 hk24 hf
      · rw [if_pos c8] at hf
        refine g_aload_n (j := 2) dX2_work_196 rfl rfl ?_
        refine g_iload (j := 1) dX2_work_197 rfl ?_
        refine g_aload_n (j := 2) dX2_work_199 rfl rfl ?_
        obtain ⟨v9, ev9, hf⟩ := ob hf
        refine g_getF dX2_work_200 ev9 t_291 hin6 hc6 (by decide) rfl ?_
        refine g_aload_n (j := 2) dX2_work_203 rfl rfl ?_
        obtain ⟨v10, ev10, hf⟩ := ob hf
        refine g_getI dX2_work_204 ev10 t_292 hin6 hc6 (by decide) rfl ?_
        refine g_iload (j := 1) dX2_work_207 rfl ?_
        obtain ⟨σ11, v12, eσ11, hf⟩ := cb_el hf
        refine g_callSN_i dX2_work_209 (wX11_valuesOf _ eσ11) (okX11_valuesOf _ (by decide) (by decide)) t_1148 t_1149 rfl (Nat.le_trans (cat_le _) (Nat.le_of_ble_eq_true rfl)) rfl ?_
        refine g_isub dX2_work_212 ?_
        obtain ⟨v13, ev13, hf⟩ := ob hf
        refine g_aald dX2_work_213 (by decide) rfl ev13 ?_
        refine g_aload_n (j := 2) dX2_work_214 rfl rfl ?_
        obtain ⟨v14, ev14, hf⟩ := ob hf
        refine g_getF dX2_work_215 ev14 t_291 hin6 hc6 (by decide) rfl ?_
        refine g_aload_n (j := 2) dX2_work_218 rfl rfl ?_
        obtain ⟨v15, ev15, hf⟩ := ob hf
        refine g_getI dX2_work_219 ev15 t_292 hin6 hc6 (by decide) rfl ?_
        refine g_iconst (v := 1) dX2_work_222 (by decide) ?_
        refine g_isub dX2_work_223 ?_
        obtain ⟨v16, ev16, hf⟩ := ob hf
        refine g_aald dX2_work_224 (by decide) rfl ev16 ?_
        refine g_aload (j := 5) dX2_work_225 rfl ?_
        obtain ⟨_, h19, hf⟩ := ob hf
        obtain ⟨σ17, v18, eσ17, hf⟩ := cb_el hf
        refine g_callV_v dX2_work_227 (wX2_calculate _ eσ17) (okX2_calculate _ (by decide) (by decide)) (ckK_el h19) hc6 t_1153 t_1155 s_X2_calculate rfl (Nat.le_trans (cat_le _) (Nat.le_of_ble_eq_true rfl)) rfl ?_
        refine g_aload_n (j := 2) dX2_work_230 rfl rfl ?_
        obtain ⟨v20, ev20, hf⟩ := ob hf
        refine g_getF dX2_work_231 ev20 t_300 hin6 hc6 (by decide) rfl ?_
        obtain ⟨_, h23, hf⟩ := ob hf
        obtain ⟨σ21, v22, eσ21, hf⟩ := cb_el hf
        refine g_callVN_i dX2_work_234 (wX1_fits _ eσ21) (okX1_fits _ (by decide) (by decide)) (ckK_el h23) hc5 t_1214 t_1072 s_X1_fits rfl (Nat.le_trans (cat_le _) (Nat.le_of_ble_eq_true rfl)) rfl ?_
        refine g_if_eq (tgt := 255) dX2_work_237 (by decide) (fun c24 => ?_) (fun c24 => ?_)
        · rw [if_pos c24] at hf
          refine g_bipush (v := 7) dX2_work_255 (by decide) ?_
          refine g_sub (L' := [(0, rv x0), (2, rv x2), (3, rv x3), (4, rv x4), (5, .int x5)]) [2, 3, 4, 5, 6] rfl ?_
          exact bX2_work_257 hX1 hX2 hk24 hf
        · rw [if_neg c24] at hf
          refine g_aload_n (j := 2) dX2_work_240 rfl rfl ?_
          refine g_iload (j := 1) dX2_work_241 rfl ?_
          refine g_iload (j := 1) dX2_work_243 rfl ?_
          obtain ⟨σ25, v26, eσ25, hf⟩ := cb_el hf
          refine g_callSN_i dX2_work_245 (wX11_valuesOf _ eσ25) (okX11_valuesOf _ (by decide) (by decide)) t_1148 t_1149 rfl (Nat.le_trans (cat_le _) (Nat.le_of_ble_eq_true rfl)) rfl ?_
          refine g_aload_n (j := 4) dX2_work_248 rfl rfl ?_
          obtain ⟨_, h29, hf⟩ := ob hf
          obtain ⟨σ27, v28, eσ27, hf⟩ := cb_el hf
          refine g_callV_i dX2_work_249 (wX2_finish _ eσ27) (okX2_finish _ (by decide) (by decide)) (ckK_el h29) hc6 t_1116 t_1118 s_X2_finish rfl (Nat.le_trans (cat_le _) (Nat.le_of_ble_eq_true rfl)) rfl ?_
          refine g_goto (tgt := 257) dX2_work_252 (by decide) ?_
          refine g_sub (L' := [(0, rv x0), (2, rv x2), (3, rv x3), (4, rv x4), (5, .int x5)]) [2, 3, 4, 5, 6] rfl ?_
          exact bX2_work_257 hX1 hX2 hk24 hf
    · rw [if_neg c4] at hf
      refine g_aload_n (j := 1) dX2_work_165 rfl rfl ?_
      refine g_aload_n (j := 1) dX2_work_166 rfl rfl ?_
      refine g_aload (j := 6) dX2_work_167 rfl ?_
      refine g_iload (j := 7) dX2_work_169 rfl ?_
      refine g_aload_n (j := 2) dX2_work_171 rfl rfl ?_
      obtain ⟨_, h32, hf⟩ := ob hf
      obtain ⟨σ30, a31, eσ30, hf⟩ := cb_el hf
      refine g_callV_q dX2_work_172 (wX2_valueAt _ eσ30) (okX2_valueAt _ (by decide) (by decide)) (ckK_el h32) hc6 t_1140 t_1142 s_X2_valueAt rfl (Nat.le_trans (cat_le _) (Nat.le_of_ble_eq_true rfl)) rfl ?_
      obtain ⟨_, h35, hf⟩ := ob hf
      obtain ⟨σ33, v34, eσ33, hf⟩ := cb_el hf
      refine g_callV_i dX2_work_175 (wX2_push _ eσ33) (okX2_push _ (by decide) (by decide)) (ckK_el h35) hc6 t_1126 t_1128 s_X2_push rfl (Nat.le_trans (cat_le _) (Nat.le_of_ble_eq_true rfl)) rfl ?_
      refine g_istore (i := 8) (L' := [(8, .int v34), (9, .int v2), (0, rv x0), (2, rv x2), (3, rv x3), (4, rv x4), (5, .int x5), (6, rv x6), (7, .int x7)]) dX2_work_178 (Nat.le_of_ble_eq_true rfl) rfl ?_
      refine g_goto (tgt := 259) dX2_work_180 (by decide) ?_
      refine g_sub (L' := [(0, rv x0), (2, rv x2), (3, rv x3), (4, rv x4), (5, .int x5), (8, .int v34)]) [2, 3, 4, 5, 6, 0] rfl ?_
      exact bX2_work_259 hX1 hX2 hk24 hf
  · rw [if_pos c3] at hf
    refine g_aload_n (j := 1) dX2_work_132 rfl rfl ?_
    refine g_aload_n (j := 2) dX2_work_133 rfl rfl ?_
    refine g_aload_n (j := 2) dX2_work_134 rfl rfl ?_
    refine g_aload (j := 6) dX2_work_135 rfl ?_
    obtain ⟨v36, ev36, hf⟩ := ob hf
    refine g_getFN dX2_work_137 ev36 t_1448 hin13 hc13 (by decide) rfl ?_
    refine g_iload (j := 7) dX2_work_140 rfl ?_
    obtain ⟨v37, ev37, hf⟩ := ob hf
    refine g_iald dX2_work_142 ev37 ?_
    refine g_iconst (v := 1) dX2_work_143 (by decide) ?_
    obtain ⟨_, h40, hf⟩ := ob hf
    obtain ⟨σ38, v39, eσ38, hf⟩ := cb_el hf
    refine g_callVN_i dX2_work_144 (wX0_find _ eσ38) (okX0_find _ (by decide) (by decide)) (ckK_el h40) hc4 t_1131 t_973 s_X0_find rfl (Nat.le_trans (cat_le _) (Nat.le_of_ble_eq_true rfl)) rfl ?_
    obtain ⟨_, h43, hf⟩ := ob hf
    obtain ⟨σ41, a42, eσ41, hf⟩ := cb_el hf
    refine g_callVN_q dX2_work_147 (wX0_toldAt _ eσ41) (okX0_toldAt _ (by decide) (by decide)) (ckK_el h43) hc4 t_1132 t_1134 s_X0_toldAt rfl (Nat.le_trans (cat_le _) (Nat.le_of_ble_eq_true rfl)) rfl ?_
    obtain ⟨_, h46, hf⟩ := ob hf
    obtain ⟨σ44, v45, eσ44, hf⟩ := cb_el hf
    refine g_callV_i dX2_work_150 (wX2_enter _ eσ44) (okX2_enter _ (by decide) (by decide)) (ckK_el h46) hc6 t_1136 t_1138 s_X2_enter rfl (Nat.le_trans (cat_le _) (Nat.le_of_ble_eq_true rfl)) rfl ?_
    refine g_istore (i := 8) (L' := [(8, .int v45), (9, .int v2), (0, rv x0), (2, rv x2), (3, rv x3), (4, rv x4), (5, .int x5), (6, rv x6), (7, .int x7)]) dX2_work_153 (Nat.le_of_ble_eq_true rfl) rfl ?_
    refine g_goto (tgt := 259) dX2_work_155 (by decide) ?_
    refine g_sub (L' := [(0, rv x0), (2, rv x2), (3, rv x3), (4, rv x4), (5, .int x5), (8, .int v45)]) [2, 3, 4, 5, 6, 0] rfl ?_
    exact bX2_work_259 hX1 hX2 hk24 hf

set_option maxRecDepth 100000 in
set_option maxHeartbeats 4000000 in
theorem bX2_work_24 {X : Xt} {σf : St} {r : Int32} (hX1 : X.2.2.1 = σf) (hX2 : X.2.2.2 = .inl (some (.int r))) : ∀ (n : Nat) (σ : St) (x0 : Nat) (x2 : Nat) (x3 : Nat) (x4 : Nat) (x5 : Int32), fX2_work_24 n σ x0 x2 x3 x4 x5 = some (σf, r) → G MtX2_work X σ 24 [(0, rv x0), (2, rv x2), (3, rv x3), (4, rv x4), (5, .int x5)] [] := by
  intro n
  induction n with
  | zero => intro σ x0 x2 x3 x4 x5 hf; cases hf
  | succ n ih =>
    intro σ x0 x2 x3 x4 x5 hf
    rw [fX2_work_24] at hf
    refine g_iload (j := 4) dX2_work_24 rfl ?_
    refine g_ldc (v := 1000000) dX2_work_26 t_1111 ?_
    refine g_icmp_ge (tgt := 273) dX2_work_28 (by decide) (fun c1 => ?_) (fun c1 => ?_)
    · rw [if_pos c1] at hf
      refine g_bipush (v := 8) dX2_work_273 (by decide) ?_
      exact g_iret dX2_work_275 rfl rfl hX2 hX1 hf
    · rw [if_neg c1] at hf
      refine g_aload_n (j := 0) dX2_work_31 rfl rfl ?_
      obtain ⟨v2, ev2, hf⟩ := ob hf
      refine g_getF dX2_work_32 ev2 t_293 hin6 hc6 (by decide) rfl ?_
      refine g_aload_n (j := 0) dX2_work_35 rfl rfl ?_
      obtain ⟨v3, ev3, hf⟩ := ob hf
      refine g_getI dX2_work_36 ev3 t_296 hin6 hc6 (by decide) rfl ?_
      obtain ⟨v4, ev4, hf⟩ := ob hf
      refine g_aald dX2_work_39 (by decide) rfl ev4 ?_
      refine g_astore (i := 6) (L' := [(6, rv v4), (0, rv x0), (2, rv x2), (3, rv x3), (4, rv x4), (5, .int x5)]) dX2_work_40 (Nat.le_of_ble_eq_true rfl) rfl ?_
      refine g_aload_n (j := 1) dX2_work_42 rfl rfl ?_
      obtain ⟨v5, ev5, hf⟩ := ob hf
      refine g_getF dX2_work_43 ev5 t_294 hin6 hc6 (by decide) rfl ?_
      refine g_aload_n (j := 1) dX2_work_46 rfl rfl ?_
      obtain ⟨v6, ev6, hf⟩ := ob hf
      refine g_getI dX2_work_47 ev6 t_296 hin6 hc6 (by decide) rfl ?_
      obtain ⟨v7, ev7, hf⟩ := ob hf
      refine g_iald dX2_work_50 ev7 ?_
      refine g_istore (i := 7) (L' := [(7, .int v7), (6, rv v4), (0, rv x0), (2, rv x2), (3, rv x3), (4, rv x4), (5, .int x5)]) dX2_work_51 (Nat.le_of_ble_eq_true rfl) (by simp [rv_cat]) ?_
      refine g_iload (j := 0) dX2_work_53 rfl ?_
      refine g_aload (j := 1) dX2_work_55 rfl ?_
      obtain ⟨v8, ev8, hf⟩ := ob hf
      refine g_getFN dX2_work_57 ev8 t_1445 hin13 hc13 (by decide) rfl ?_
      obtain ⟨v9, ev9, hf⟩ := ob hf
      refine g_alen dX2_work_60 ev9 ?_
      refine g_icmp_lt (tgt := 83) dX2_work_61 (by decide) (fun c10 => ?_) (fun c10 => ?_)
      · rw [if_pos c10] at hf
        refine g_aload_n (j := 2) dX2_work_83 rfl rfl ?_
        obtain ⟨v11, ev11, hf⟩ := ob hf
        refine g_getF dX2_work_84 ev11 t_294 hin6 hc6 (by decide) rfl ?_
        refine g_aload_n (j := 2) dX2_work_87 rfl rfl ?_
        obtain ⟨v12, ev12, hf⟩ := ob hf
        refine g_getI dX2_work_88 ev12 t_296 hin6 hc6 (by decide) rfl ?_
        refine g_iload (j := 0) dX2_work_91 rfl ?_
        refine g_iconst (v := 1) dX2_work_93 (by decide) ?_
        refine g_iadd dX2_work_94 ?_
        obtain ⟨σ13, eσ13, hf⟩ := ob hf
        refine g_iast dX2_work_95 eσ13 ?_
        refine g_aload_n (j := 2) dX2_work_96 rfl rfl ?_
        obtain ⟨v14, ev14, hf⟩ := ob hf
        refine g_getI dX2_work_97 ev14 t_296 hin6 hc6 (by decide) rfl ?_
        refine g_if_ne (tgt := 115) dX2_work_100 (by decide) (fun c15 => ?_) (fun c15 => ?_)
        · rw [if_neg c15] at hf
          refine g_sub (L' := [(0, rv x0), (2, rv x2), (3, rv x3), (4, rv x4), (5, .int x5), (6, rv v4), (7, .int v7)]) [2, 3, 4, 5, 6, 1, 0] rfl ?_
          exact bX2_work_115 hX1 hX2 (fun σ x0 x2 x3 x4 x5 hf => ih σ x0 x2 x3 x4 x5 hf) hf
        · rw [if_pos c15] at hf
          refine g_aload_n (j := 2) dX2_work_103 rfl rfl ?_
          refine g_aload (j := 1) dX2_work_104 rfl ?_
          obtain ⟨v16, ev16, hf⟩ := ob hf
          refine g_getFN dX2_work_106 ev16 t_1451 hin13 hc13 (by decide) rfl ?_
          refine g_iload (j := 0) dX2_work_109 rfl ?_
          obtain ⟨v17, ev17, hf⟩ := ob hf
          refine g_iald dX2_work_111 ev17 ?_
          obtain ⟨σ18, eσ18, hf⟩ := ob hf
          refine g_putI dX2_work_112 eσ18 (Or.inl t_298) hin6 hc6 (by decide) hty6 hnm6 (Or.inl rfl) rfl rfl rfl ?_
          refine g_sub (L' := [(0, rv x0), (2, rv x2), (3, rv x3), (4, rv x4), (5, .int x5), (6, rv v4), (7, .int v7)]) [2, 3, 4, 5, 6, 1, 0] rfl ?_
          exact bX2_work_115 hX1 hX2 (fun σ x0 x2 x3 x4 x5 hf => ih σ x0 x2 x3 x4 x5 hf) hf
      · rw [if_neg c10] at hf
        refine g_aload_n (j := 2) dX2_work_64 rfl rfl ?_
        obtain ⟨v19, ev19, hf⟩ := ob hf
        refine g_getI dX2_work_65 ev19 t_296 hin6 hc6 (by decide) rfl ?_
        refine g_if_ne (tgt := 73) dX2_work_68 (by decide) (fun c20 => ?_) (fun c20 => ?_)
        · rw [if_neg c20] at hf
          refine g_aload_n (j := 2) dX2_work_73 rfl rfl ?_
          refine g_aload_n (j := 4) dX2_work_74 rfl rfl ?_
          obtain ⟨_, h23, hf⟩ := ob hf
          obtain ⟨σ21, v22, eσ21, hf⟩ := cb_el hf
          refine g_callV_i dX2_work_75 (wX2_leave _ eσ21) (okX2_leave _ (by decide) (by decide)) (ckK_el h23) hc6 t_1112 t_1114 s_X2_leave rfl (Nat.le_trans (cat_le _) (Nat.le_of_ble_eq_true rfl)) rfl ?_
          refine g_istore (i := 8) (L' := [(8, .int v22), (7, .int v7), (6, rv v4), (0, rv x0), (2, rv x2), (3, rv x3), (4, rv x4), (5, .int x5)]) dX2_work_78 (Nat.le_of_ble_eq_true rfl) rfl ?_
          refine g_goto (tgt := 259) dX2_work_80 (by decide) ?_
          refine g_sub (L' := [(0, rv x0), (2, rv x2), (3, rv x3), (4, rv x4), (5, .int x5), (8, .int v22)]) [3, 4, 5, 6, 7, 0] rfl ?_
          exact bX2_work_259 hX1 hX2 (fun σ x0 x2 x3 x4 x5 hf => ih σ x0 x2 x3 x4 x5 hf) hf
        · rw [if_pos c20] at hf
          refine g_iconst (v := 0) dX2_work_71 (by decide) ?_
          exact g_iret dX2_work_72 rfl rfl hX2 hX1 hf

set_option maxRecDepth 100000 in
set_option maxHeartbeats 4000000 in
theorem wX2_work (l : Launch) {σ σf : St} {x0 : Nat} {x1 : Nat} {x2 : Nat} {x3 : Nat} {x4 : Nat} {r : Int32} (hf : fX2_work σ x0 x1 x2 x3 x4 = some (σf, r)) : Con MtX2_work yX2_work l σ [rv x0, rv x1, rv x2, rv x3, rv x4] σf (some (.int r)) := by
  refine Con.of (by decide +kernel) rfl (fun h => absurd (show false = true from h) (by decide)) (by simp only [sl_n, sl_r, sl_i, sl_l]; exact Nat.le_of_ble_eq_true rfl) ?_
  rw [show lv_args 0 [rv x0, rv x1, rv x2, rv x3, rv x4] = [(0, rv x0), (1, rv x1), (2, rv x2), (3, rv x3), (4, rv x4)] by simp only [la_n, la_r, la_i, la_l] <;> rfl]
  have hX1 : ((l, σ, σf, .inl (some (.int r))) : Xt).2.2.1 = σf := rfl
  have hX2 : ((l, σ, σf, .inl (some (.int r))) : Xt).2.2.2 = .inl (some (.int r)) := rfl
  unfold fX2_work at hf
  refine g_aload_n (j := 0) dX2_work_0 rfl rfl ?_
  refine g_iconst (v := 0) dX2_work_1 (by decide) ?_
  obtain ⟨σ1, eσ1, hf⟩ := ob hf
  refine g_putI dX2_work_2 eσ1 (Or.inl t_292) hin6 hc6 (by decide) hty6 hnm6 (Or.inl rfl) rfl rfl rfl ?_
  refine g_aload_n (j := 0) dX2_work_5 rfl rfl ?_
  refine g_iconst (v := 0) dX2_work_6 (by decide) ?_
  obtain ⟨σ2, eσ2, hf⟩ := ob hf
  refine g_putI dX2_work_7 eσ2 (Or.inl t_297) hin6 hc6 (by decide) hty6 hnm6 (Or.inl rfl) rfl rfl rfl ?_
  refine g_aload_n (j := 0) dX2_work_10 rfl rfl ?_
  refine g_iconst (v := 0) dX2_work_11 (by decide) ?_
  obtain ⟨σ3, eσ3, hf⟩ := ob hf
  refine g_putI dX2_work_12 eσ3 (Or.inl t_296) hin6 hc6 (by decide) hty6 hnm6 (Or.inl rfl) rfl rfl rfl ?_
  refine g_aload_n (j := 0) dX2_work_15 rfl rfl ?_
  refine g_aload_n (j := 1) dX2_work_16 rfl rfl ?_
  refine g_iconst (v := 0) dX2_work_17 (by decide) ?_
  obtain ⟨_, h6, hf⟩ := ob hf
  obtain ⟨σ4, v5, eσ4, hf⟩ := cb_el hf
  refine g_callV_v dX2_work_18 (wX2_begin _ eσ4) (okX2_begin _ (by decide) (by decide)) (ckK_el h6) hc6 t_1107 t_1109 s_X2_begin rfl (Nat.le_trans (cat_le _) (Nat.le_of_ble_eq_true rfl)) rfl ?_
  refine g_iconst (v := 0) dX2_work_21 (by decide) ?_
  refine g_istore (i := 5) (L' := [(5, .int 0), (0, rv x0), (1, rv x1), (2, rv x2), (3, rv x3), (4, rv x4)]) dX2_work_22 (Nat.le_of_ble_eq_true rfl) (by simp [rv_cat]) ?_
  refine g_sub (L' := [(0, rv x0), (2, rv x2), (3, rv x3), (4, rv x4), (5, .int 0)]) [1, 3, 4, 5, 0] rfl ?_
  exact bX2_work_24 hX1 hX2 FU _ _ _ _ _ _ hf

theorem okX2_work (M : Mt) (h1 : 7 + 1 ≤ M.2.2.2.2.1) (h2 : 8 + (10 + 11) + 275 ≤ M.2.2.2.2.2.1) : CallOk M MtX2_work yX2_work 4 := ⟨t_1106, h1, h2, ⟨by decide, by decide⟩, by decide +kernel, t_11⟩
