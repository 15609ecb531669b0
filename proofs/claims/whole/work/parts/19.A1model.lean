abbrev MtX12_makes : Mt := (cX12_makes, 5, "ExactlySaidModel", none, 1, 84, false)
set_option maxRecDepth 100000 in
set_option maxHeartbeats 4000000 in
theorem wX12_makes (l : Launch) {σ σf : St} {x0 : Nat} {x1 : Int32} {x2 : Int32} {x3 : Int32} {x4 : Int32} {r : Unit} (hf : fX12_makes σ x0 x1 x2 x3 x4 = some (σf, r)) : Con MtX12_makes yX12_makes l σ [rv x0, .int x1, .int x2, .int x3, .int x4] σf (none) := by
  refine Con.of (by decide +kernel) rfl (fun h => absurd (show false = true from h) (by decide)) (by simp only [sl_n, sl_r, sl_i, sl_l]; exact Nat.le_of_ble_eq_true rfl) ?_
  rw [show lv_args 0 [rv x0, .int x1, .int x2, .int x3, .int x4] = [(0, rv x0), (1, .int x1), (2, .int x2), (3, .int x3), (4, .int x4)] by simp only [la_n, la_r, la_i, la_l] <;> rfl]
  have hX1 : ((l, σ, σf, .inl (none)) : Xt).2.2.1 = σf := rfl
  have hX2 : ((l, σ, σf, .inl (none)) : Xt).2.2.2 = .inl (none) := rfl
  unfold fX12_makes at hf
  refine g_aload_n (j := 0) dX12_makes_0 rfl rfl ?_
  obtain ⟨v1, ev1, hf⟩ := ob hf
  refine g_getF dX12_makes_1 ev1 t_1984 hin16 hc16 (by decide) rfl ?_
  refine g_aload_n (j := 0) dX12_makes_4 rfl rfl ?_
  obtain ⟨v2, ev2, hf⟩ := ob hf
  refine g_getI dX12_makes_5 ev2 t_1988 hin16 hc16 (by decide) rfl ?_
  refine g_iload_n (j := 1) dX12_makes_8 rfl rfl ?_
  obtain ⟨σ3, eσ3, hf⟩ := ob hf
  refine g_iast dX12_makes_9 eσ3 ?_
  refine g_aload_n (j := 0) dX12_makes_10 rfl rfl ?_
  obtain ⟨v4, ev4, hf⟩ := ob hf
  refine g_getF dX12_makes_11 ev4 t_1985 hin16 hc16 (by decide) rfl ?_
  refine g_aload_n (j := 0) dX12_makes_14 rfl rfl ?_
  obtain ⟨v5, ev5, hf⟩ := ob hf
  refine g_getI dX12_makes_15 ev5 t_1988 hin16 hc16 (by decide) rfl ?_
  refine g_iload_n (j := 2) dX12_makes_18 rfl rfl ?_
  obtain ⟨σ6, eσ6, hf⟩ := ob hf
  refine g_iast dX12_makes_19 eσ6 ?_
  refine g_aload_n (j := 0) dX12_makes_20 rfl rfl ?_
  obtain ⟨v7, ev7, hf⟩ := ob hf
  refine g_getF dX12_makes_21 ev7 t_1986 hin16 hc16 (by decide) rfl ?_
  refine g_aload_n (j := 0) dX12_makes_24 rfl rfl ?_
  obtain ⟨v8, ev8, hf⟩ := ob hf
  refine g_getI dX12_makes_25 ev8 t_1988 hin16 hc16 (by decide) rfl ?_
  refine g_iload_n (j := 3) dX12_makes_28 rfl rfl ?_
  obtain ⟨σ9, eσ9, hf⟩ := ob hf
  refine g_iast dX12_makes_29 eσ9 ?_
  refine g_aload_n (j := 0) dX12_makes_30 rfl rfl ?_
  obtain ⟨v10, ev10, hf⟩ := ob hf
  refine g_getF dX12_makes_31 ev10 t_1987 hin16 hc16 (by decide) rfl ?_
  refine g_aload_n (j := 0) dX12_makes_34 rfl rfl ?_
  obtain ⟨v11, ev11, hf⟩ := ob hf
  refine g_getI dX12_makes_35 ev11 t_1988 hin16 hc16 (by decide) rfl ?_
  refine g_iload (j := 4) dX12_makes_38 rfl ?_
  obtain ⟨σ12, eσ12, hf⟩ := ob hf
  refine g_iast dX12_makes_40 eσ12 ?_
  refine g_aload_n (j := 0) dX12_makes_41 rfl rfl ?_
  refine g_dup dX12_makes_42 (rv_cat _) ?_
  obtain ⟨v13, ev13, hf⟩ := ob hf
  refine g_getI dX12_makes_43 ev13 t_1988 hin16 hc16 (by decide) rfl ?_
  refine g_iconst (v := 1) dX12_makes_46 (by decide) ?_
  refine g_iadd dX12_makes_47 ?_
  obtain ⟨σ14, eσ14, hf⟩ := ob hf
  refine g_putI dX12_makes_48 eσ14 (Or.inl t_1988) hin16 hc16 (by decide) hty16 hnm16 (Or.inl rfl) rfl rfl rfl ?_
  exact g_vret dX12_makes_51 rfl hX2 hX1 hf

theorem okX12_makes (M : Mt) (h1 : 1 + 1 ≤ M.2.2.2.2.1) (h2 : 8 + (5 + 11) + 84 ≤ M.2.2.2.2.2.1) : CallOk M MtX12_makes yX12_makes 4 := ⟨t_2321, h1, h2, ⟨by decide, by decide⟩, by decide +kernel, t_16⟩
abbrev MtX12_waitsFor : Mt := (cX12_waitsFor, 3, "ExactlySaidModel", none, 1, 84, false)
set_option maxRecDepth 100000 in
set_option maxHeartbeats 4000000 in
theorem bX12_waitsFor_71 {X : Xt} {σf : St} {r : Unit} (hX1 : X.2.2.1 = σf) (hX2 : X.2.2.2 = .inl (none)) {σ : St} {x0 : Nat} (hf : fX12_waitsFor_71 σ x0 = some (σf, r)) : G MtX12_waitsFor X σ 71 [(0, rv x0)] [] := by
  unfold fX12_waitsFor_71 at hf
  refine g_aload_n (j := 0) dX12_waitsFor_71 rfl rfl ?_
  refine g_dup dX12_waitsFor_72 (rv_cat _) ?_
  obtain ⟨v1, ev1, hf⟩ := ob hf
  refine g_getI dX12_waitsFor_73 ev1 t_1998 hin16 hc16 (by decide) rfl ?_
  refine g_iconst (v := 1) dX12_waitsFor_76 (by decide) ?_
  refine g_iadd dX12_waitsFor_77 ?_
  obtain ⟨σ2, eσ2, hf⟩ := ob hf
  refine g_putI dX12_waitsFor_78 eσ2 (Or.inl t_1998) hin16 hc16 (by decide) hty16 hnm16 (Or.inl rfl) rfl rfl rfl ?_
  exact g_vret dX12_waitsFor_81 rfl hX2 hX1 hf

set_option maxRecDepth 100000 in
set_option maxHeartbeats 4000000 in
theorem wX12_waitsFor (l : Launch) {σ σf : St} {x0 : Nat} {x1 : Int32} {x2 : Int32} {r : Unit} (hf : fX12_waitsFor σ x0 x1 x2 = some (σf, r)) : Con MtX12_waitsFor yX12_waitsFor l σ [rv x0, .int x1, .int x2] σf (none) := by
  refine Con.of (by decide +kernel) rfl (fun h => absurd (show false = true from h) (by decide)) (by simp only [sl_n, sl_r, sl_i, sl_l]; exact Nat.le_of_ble_eq_true rfl) ?_
  rw [show lv_args 0 [rv x0, .int x1, .int x2] = [(0, rv x0), (1, .int x1), (2, .int x2)] by simp only [la_n, la_r, la_i, la_l] <;> rfl]
  have hX1 : ((l, σ, σf, .inl (none)) : Xt).2.2.1 = σf := rfl
  have hX2 : ((l, σ, σf, .inl (none)) : Xt).2.2.2 = .inl (none) := rfl
  unfold fX12_waitsFor at hf
  refine g_aload_n (j := 0) dX12_waitsFor_0 rfl rfl ?_
  obtain ⟨v1, ev1, hf⟩ := ob hf
  refine g_getF dX12_waitsFor_1 ev1 t_1993 hin16 hc16 (by decide) rfl ?_
  refine g_aload_n (j := 0) dX12_waitsFor_4 rfl rfl ?_
  obtain ⟨v2, ev2, hf⟩ := ob hf
  refine g_getI dX12_waitsFor_5 ev2 t_1997 hin16 hc16 (by decide) rfl ?_
  refine g_iload_n (j := 1) dX12_waitsFor_8 rfl rfl ?_
  obtain ⟨σ3, eσ3, hf⟩ := ob hf
  refine g_iast dX12_waitsFor_9 eσ3 ?_
  refine g_aload_n (j := 0) dX12_waitsFor_10 rfl rfl ?_
  obtain ⟨v4, ev4, hf⟩ := ob hf
  refine g_getF dX12_waitsFor_11 ev4 t_1994 hin16 hc16 (by decide) rfl ?_
  refine g_aload_n (j := 0) dX12_waitsFor_14 rfl rfl ?_
  obtain ⟨v5, ev5, hf⟩ := ob hf
  refine g_getI dX12_waitsFor_15 ev5 t_1997 hin16 hc16 (by decide) rfl ?_
  refine g_aload_n (j := 0) dX12_waitsFor_18 rfl rfl ?_
  obtain ⟨v6, ev6, hf⟩ := ob hf
  refine g_getI dX12_waitsFor_19 ev6 t_1978 hin16 hc16 (by decide) rfl ?_
  obtain ⟨σ7, eσ7, hf⟩ := ob hf
  refine g_iast dX12_waitsFor_22 eσ7 ?_
  refine g_aload_n (j := 0) dX12_waitsFor_23 rfl rfl ?_
  obtain ⟨v8, ev8, hf⟩ := ob hf
  refine g_getF dX12_waitsFor_24 ev8 t_1995 hin16 hc16 (by decide) rfl ?_
  refine g_aload_n (j := 0) dX12_waitsFor_27 rfl rfl ?_
  obtain ⟨v9, ev9, hf⟩ := ob hf
  refine g_getI dX12_waitsFor_28 ev9 t_1997 hin16 hc16 (by decide) rfl ?_
  refine g_iload_n (j := 2) dX12_waitsFor_31 rfl rfl ?_
  obtain ⟨σ10, eσ10, hf⟩ := ob hf
  refine g_iast dX12_waitsFor_32 eσ10 ?_
  refine g_aload_n (j := 0) dX12_waitsFor_33 rfl rfl ?_
  obtain ⟨v11, ev11, hf⟩ := ob hf
  refine g_getF dX12_waitsFor_34 ev11 t_1996 hin16 hc16 (by decide) rfl ?_
  refine g_aload_n (j := 0) dX12_waitsFor_37 rfl rfl ?_
  obtain ⟨v12, ev12, hf⟩ := ob hf
  refine g_getI dX12_waitsFor_38 ev12 t_1997 hin16 hc16 (by decide) rfl ?_
  refine g_iconst (v := 1) dX12_waitsFor_41 (by decide) ?_
  obtain ⟨σ13, eσ13, hf⟩ := ob hf
  refine g_iast dX12_waitsFor_42 eσ13 ?_
  refine g_aload_n (j := 0) dX12_waitsFor_43 rfl rfl ?_
  refine g_dup dX12_waitsFor_44 (rv_cat _) ?_
  obtain ⟨v14, ev14, hf⟩ := ob hf
  refine g_getI dX12_waitsFor_45 ev14 t_1997 hin16 hc16 (by decide) rfl ?_
  refine g_iconst (v := 1) dX12_waitsFor_48 (by decide) ?_
  refine g_iadd dX12_waitsFor_49 ?_
  obtain ⟨σ15, eσ15, hf⟩ := ob hf
  refine g_putI dX12_waitsFor_50 eσ15 (Or.inl t_1997) hin16 hc16 (by decide) hty16 hnm16 (Or.inl rfl) rfl rfl rfl ?_
  refine g_iload_n (j := 1) dX12_waitsFor_53 rfl rfl ?_
  refine g_bipush (v := 40) dX12_waitsFor_54 (by decide) ?_
  refine g_icmp_eq (tgt := 71) dX12_waitsFor_56 (by decide) (fun c16 => ?_) (fun c16 => ?_)
  · rw [if_pos c16] at hf
    refine g_sub (L' := [(0, rv x0)]) [0] rfl ?_
    exact bX12_waitsFor_71 hX1 hX2 hf
  · rw [if_neg c16] at hf
    refine g_iload_n (j := 1) dX12_waitsFor_59 rfl rfl ?_
    refine g_bipush (v := 8) dX12_waitsFor_60 (by decide) ?_
    refine g_icmp_eq (tgt := 71) dX12_waitsFor_62 (by decide) (fun c17 => ?_) (fun c17 => ?_)
    · rw [if_pos c17] at hf
      refine g_sub (L' := [(0, rv x0)]) [0] rfl ?_
      exact bX12_waitsFor_71 hX1 hX2 hf
    · rw [if_neg c17] at hf
      refine g_iload_n (j := 1) dX12_waitsFor_65 rfl rfl ?_
      refine g_bipush (v := 6) dX12_waitsFor_66 (by decide) ?_
      refine g_icmp_ne (tgt := 81) dX12_waitsFor_68 (by decide) (fun c18 => ?_) (fun c18 => ?_)
      · rw [if_neg c18] at hf
        exact g_vret dX12_waitsFor_81 rfl hX2 hX1 hf
      · rw [if_pos c18] at hf
        refine g_sub (L' := [(0, rv x0)]) [0] rfl ?_
        exact bX12_waitsFor_71 hX1 hX2 hf

theorem okX12_waitsFor (M : Mt) (h1 : 1 + 1 ≤ M.2.2.2.2.1) (h2 : 8 + (3 + 11) + 84 ≤ M.2.2.2.2.2.1) : CallOk M MtX12_waitsFor yX12_waitsFor 2 := ⟨t_2325, h1, h2, ⟨by decide, by decide⟩, by decide +kernel, t_16⟩
abbrev MtX12_readsOperand : Mt := (cX12_readsOperand, 5, "ExactlySaidModel", (Option.some Jvm.ClassFile.FieldType.int), 9, 278, false)
set_option maxRecDepth 100000 in
set_option maxHeartbeats 4000000 in
theorem bX12_readsOperand_75 {X : Xt} {σf : St} {r : Int32} (hX1 : X.2.2.1 = σf) (hX2 : X.2.2.2 = .inl (some (.int r))) {σ : St} {x0 : Nat} {y0 : Nat} {y1 : Int32} (hf : fX12_readsOperand_75 σ x0 y0 y1 = some (σf, r)) : G MtX12_readsOperand X σ 75 [(0, rv x0)] [.int y1, rv y0] := by
  unfold fX12_readsOperand_75 at hf
  refine g_iconst (v := (-1)) dX12_readsOperand_75 (by decide) ?_
  obtain ⟨_, h3, hf⟩ := ob hf
  obtain ⟨σ1, v2, eσ1, hf⟩ := cb_el hf
  refine g_callV_v dX12_readsOperand_76 (wX12_waitsFor _ eσ1) (okX12_waitsFor _ (by decide) (by decide)) (ckK_el h3) hc16 t_2322 t_2324 s_X12_waitsFor rfl (Nat.le_trans (cat_le _) (Nat.le_of_ble_eq_true rfl)) rfl ?_
  refine g_aload_n (j := 0) dX12_readsOperand_79 rfl rfl ?_
  obtain ⟨_, h6, hf⟩ := ob hf
  obtain ⟨σ4, v5, eσ4, hf⟩ := cb_el hf
  refine g_callV_v dX12_readsOperand_80 (wX12_reads _ eσ4) (okX12_reads _ (by decide) (by decide)) (ckK_el h6) hc16 t_2249 t_2251 s_X12_reads rfl (Nat.le_trans (cat_le _) (Nat.le_of_ble_eq_true rfl)) rfl ?_
  refine g_iconst (v := 0) dX12_readsOperand_83 (by decide) ?_
  exact g_iret dX12_readsOperand_84 rfl rfl hX2 hX1 hf

set_option maxRecDepth 100000 in
set_option maxHeartbeats 4000000 in
theorem bX12_readsOperand_47 {X : Xt} {σf : St} {r : Int32} (hX1 : X.2.2.1 = σf) (hX2 : X.2.2.2 = .inl (some (.int r))) {σ : St} {x0 : Nat} (hf : fX12_readsOperand_47 σ x0 = some (σf, r)) : G MtX12_readsOperand X σ 47 [(0, rv x0)] [] := by
  unfold fX12_readsOperand_47 at hf
  refine g_aload_n (j := 0) dX12_readsOperand_47 rfl rfl ?_
  obtain ⟨v1, ev1, hf⟩ := ob hf
  refine g_getI dX12_readsOperand_48 ev1 t_1998 hin16 hc16 (by decide) rfl ?_
  refine g_bipush (v := 12) dX12_readsOperand_51 (by decide) ?_
  refine g_icmp_ne (tgt := 58) dX12_readsOperand_53 (by decide) (fun c2 => ?_) (fun c2 => ?_)
  · rw [if_neg c2] at hf
    refine g_aload_n (j := 0) dX12_readsOperand_58 rfl rfl ?_
    refine g_aload_n (j := 0) dX12_readsOperand_59 rfl rfl ?_
    obtain ⟨v3, ev3, hf⟩ := ob hf
    refine g_getI dX12_readsOperand_60 ev3 t_1979 hin16 hc16 (by decide) rfl ?_
    refine g_bipush (v := 45) dX12_readsOperand_63 (by decide) ?_
    refine g_icmp_ne (tgt := 73) dX12_readsOperand_65 (by decide) (fun c4 => ?_) (fun c4 => ?_)
    · rw [if_neg c4] at hf
      refine g_bipush (v := 40) dX12_readsOperand_73 (by decide) ?_
      exact bX12_readsOperand_75 hX1 hX2 hf
    · rw [if_pos c4] at hf
      refine g_bipush (v := 8) dX12_readsOperand_68 (by decide) ?_
      refine g_goto (tgt := 75) dX12_readsOperand_70 (by decide) ?_
      exact bX12_readsOperand_75 hX1 hX2 hf
  · rw [if_pos c2] at hf
    refine g_iconst (v := (-1)) dX12_readsOperand_56 (by decide) ?_
    exact g_iret dX12_readsOperand_57 rfl rfl hX2 hX1 hf

set_option maxRecDepth 100000 in
set_option maxHeartbeats 4000000 in
theorem bX12_readsOperand_157 {X : Xt} {σf : St} {r : Int32} (hX1 : X.2.2.1 = σf) (hX2 : X.2.2.2 = .inl (some (.int r))) {k123 : St → Nat → Int32 → Int32 → Int32 → Int32 → Option (St × Int32)} (hk123 : ∀ (σ : St) (x0 : Nat) (x1 : Int32) (x2 : Int32) (x3 : Int32) (x4 : Int32), k123 σ x0 x1 x2 x3 x4 = some (σf, r) → G MtX12_readsOperand X σ 123 [(0, rv x0), (1, .int x1), (2, .int x2), (3, .int x3), (4, .int x4)] []) {σ : St} {x0 : Nat} {x1 : Int32} {x2 : Int32} {x4 : Int32} {y0 : Int32} (hf : fX12_readsOperand_157 k123 σ x0 x1 x2 x4 y0 = some (σf, r)) : G MtX12_readsOperand X σ 157 [(0, rv x0), (1, .int x1), (2, .int x2), (4, .int x4)] [.int y0] := by
  unfold fX12_readsOperand_157 at hf
  refine g_istore_n (i := 3) (L' := [(3, .int y0), (0, rv x0), (1, .int x1), (2, .int x2), (4, .int x4)]) dX12_readsOperand_157 rfl (Nat.le_of_ble_eq_true rfl) rfl ?_
  obtain ⟨v1, ev1, hf⟩ := nm_el hf
  refine g_iinc (L' := [(4, .int v1), (3, .int y0), (0, rv x0), (1, .int x1), (2, .int x2)]) (j := 4) (v := v1) dX12_readsOperand_158 rfl (by rw [ev1]; rfl) (Nat.le_of_ble_eq_true rfl) rfl ?_
  refine g_goto (tgt := 123) dX12_readsOperand_161 (by decide) ?_
  refine g_sub (L' := [(0, rv x0), (1, .int x1), (2, .int x2), (3, .int y0), (4, .int v1)]) [2, 3, 4, 1, 0] rfl ?_
  exact hk123 _ _ _ _ _ _ hf

set_option maxRecDepth 100000 in
set_option maxHeartbeats 4000000 in
theorem bX12_readsOperand_187 {X : Xt} {σf : St} {r : Int32} (hX1 : X.2.2.1 = σf) (hX2 : X.2.2.2 = .inl (some (.int r))) {σ : St} {x2 : Int32} {y0 : Nat} {y1 : Int32} {y2 : Int32} (hf : fX12_readsOperand_187 σ x2 y0 y1 y2 = some (σf, r)) : G MtX12_readsOperand X σ 187 [(2, .int x2)] [.int y2, .int y1, rv y0] := by
  unfold fX12_readsOperand_187 at hf
  refine g_iconst (v := 0) dX12_readsOperand_187 (by decide) ?_
  refine g_iload_n (j := 0) dX12_readsOperand_188 rfl rfl ?_
  obtain ⟨_, h3, hf⟩ := ob hf
  obtain ⟨σ1, v2, eσ1, hf⟩ := cb_el hf
  refine g_callV_v dX12_readsOperand_189 (wX12_makes _ eσ1) (okX12_makes _ (by decide) (by decide)) (ckK_el h3) hc16 t_2318 t_2320 s_X12_makes rfl (Nat.le_trans (cat_le _) (Nat.le_of_ble_eq_true rfl)) rfl ?_
  refine g_iconst (v := 1) dX12_readsOperand_192 (by decide) ?_
  exact g_iret dX12_readsOperand_193 rfl rfl hX2 hX1 hf

set_option maxRecDepth 100000 in
set_option maxHeartbeats 4000000 in
theorem bX12_readsOperand_177 {X : Xt} {σf : St} {r : Int32} (hX1 : X.2.2.1 = σf) (hX2 : X.2.2.2 = .inl (some (.int r))) {σ : St} {x1 : Int32} {x2 : Int32} {x3 : Int32} {y0 : Nat} {y1 : Int32} (hf : fX12_readsOperand_177 σ x1 x2 x3 y0 y1 = some (σf, r)) : G MtX12_readsOperand X σ 177 [(1, .int x1), (2, .int x2), (3, .int x3)] [.int y1, rv y0] := by
  unfold fX12_readsOperand_177 at hf
  refine g_iload_n (j := 2) dX12_readsOperand_177 rfl rfl ?_
  refine g_iconst (v := (-1)) dX12_readsOperand_178 (by decide) ?_
  refine g_icmp_ne (tgt := 186) dX12_readsOperand_179 (by decide) (fun c1 => ?_) (fun c1 => ?_)
  · rw [if_neg c1] at hf
    refine g_iload_n (j := 2) dX12_readsOperand_186 rfl rfl ?_
    refine g_sub (L' := [(2, .int x2)]) [1] rfl ?_
    exact bX12_readsOperand_187 hX1 hX2 hf
  · rw [if_pos c1] at hf
    refine g_iload_n (j := 0) dX12_readsOperand_182 rfl rfl ?_
    refine g_goto (tgt := 187) dX12_readsOperand_183 (by decide) ?_
    refine g_sub (L' := [(2, .int x2)]) [1] rfl ?_
    exact bX12_readsOperand_187 hX1 hX2 hf

set_option maxRecDepth 100000 in
set_option maxHeartbeats 4000000 in
theorem bX12_readsOperand_164 {X : Xt} {σf : St} {r : Int32} (hX1 : X.2.2.1 = σf) (hX2 : X.2.2.2 = .inl (some (.int r))) {σ : St} {x0 : Nat} {x1 : Int32} {x2 : Int32} {x3 : Int32} (hf : fX12_readsOperand_164 σ x0 x1 x2 x3 = some (σf, r)) : G MtX12_readsOperand X σ 164 [(0, rv x0), (1, .int x1), (2, .int x2), (3, .int x3)] [] := by
  unfold fX12_readsOperand_164 at hf
  refine g_aload_n (j := 0) dX12_readsOperand_164 rfl rfl ?_
  refine g_iload_n (j := 3) dX12_readsOperand_165 rfl rfl ?_
  refine g_iconst (v := (-1)) dX12_readsOperand_166 (by decide) ?_
  refine g_icmp_ne (tgt := 175) dX12_readsOperand_167 (by decide) (fun c1 => ?_) (fun c1 => ?_)
  · rw [if_neg c1] at hf
    refine g_bipush (v := 32) dX12_readsOperand_175 (by decide) ?_
    refine g_sub (L' := [(1, .int x1), (2, .int x2), (3, .int x3)]) [1, 2, 3] rfl ?_
    exact bX12_readsOperand_177 hX1 hX2 hf
  · rw [if_pos c1] at hf
    refine g_bipush (v := 31) dX12_readsOperand_170 (by decide) ?_
    refine g_goto (tgt := 177) dX12_readsOperand_172 (by decide) ?_
    refine g_sub (L' := [(1, .int x1), (2, .int x2), (3, .int x3)]) [1, 2, 3] rfl ?_
    exact bX12_readsOperand_177 hX1 hX2 hf

set_option maxRecDepth 100000 in
set_option maxHeartbeats 4000000 in
theorem bX12_readsOperand_123 {X : Xt} {σf : St} {r : Int32} (hX1 : X.2.2.1 = σf) (hX2 : X.2.2.2 = .inl (some (.int r))) : ∀ (n : Nat) (σ : St) (x0 : Nat) (x1 : Int32) (x2 : Int32) (x3 : Int32) (x4 : Int32), fX12_readsOperand_123 n σ x0 x1 x2 x3 x4 = some (σf, r) → G MtX12_readsOperand X σ 123 [(0, rv x0), (1, .int x1), (2, .int x2), (3, .int x3), (4, .int x4)] [] := by
  intro n
  induction n with
  | zero => intro σ x0 x1 x2 x3 x4 hf; cases hf
  | succ n ih =>
    intro σ x0 x1 x2 x3 x4 hf
    rw [fX12_readsOperand_123] at hf
    refine g_iload (j := 4) dX12_readsOperand_123 rfl ?_
    refine g_aload_n (j := 0) dX12_readsOperand_125 rfl rfl ?_
    obtain ⟨v1, ev1, hf⟩ := ob hf
    refine g_getI dX12_readsOperand_126 ev1 t_2002 hin16 hc16 (by decide) rfl ?_
    refine g_icmp_ge (tgt := 164) dX12_readsOperand_129 (by decide) (fun c2 => ?_) (fun c2 => ?_)
    · rw [if_pos c2] at hf
      refine g_sub (L' := [(0, rv x0), (1, .int x1), (2, .int x2), (3, .int x3)]) [0, 1, 2, 3] rfl ?_
      exact bX12_readsOperand_164 hX1 hX2 hf
    · rw [if_neg c2] at hf
      refine g_aload_n (j := 0) dX12_readsOperand_132 rfl rfl ?_
      obtain ⟨v3, ev3, hf⟩ := ob hf
      refine g_getI dX12_readsOperand_133 ev3 t_1999 hin16 hc16 (by decide) rfl ?_
      refine g_iconst (v := 2) dX12_readsOperand_136 (by decide) ?_
      refine g_icmp_ne (tgt := 164) dX12_readsOperand_137 (by decide) (fun c4 => ?_) (fun c4 => ?_)
      · rw [if_neg c4] at hf
        refine g_sub (L' := [(0, rv x0), (1, .int x1), (2, .int x2), (3, .int x3)]) [0, 1, 2, 3] rfl ?_
        exact bX12_readsOperand_164 hX1 hX2 hf
      · rw [if_pos c4] at hf
        refine g_aload_n (j := 0) dX12_readsOperand_140 rfl rfl ?_
        obtain ⟨v5, ev5, hf⟩ := ob hf
        refine g_getF dX12_readsOperand_141 ev5 t_2003 hin16 hc16 (by decide) rfl ?_
        refine g_iload (j := 4) dX12_readsOperand_144 rfl ?_
        obtain ⟨v6, ev6, hf⟩ := ob hf
        refine g_iald dX12_readsOperand_146 ev6 ?_
        refine g_iload_n (j := 1) dX12_readsOperand_147 rfl rfl ?_
        refine g_icmp_ne (tgt := 156) dX12_readsOperand_148 (by decide) (fun c7 => ?_) (fun c7 => ?_)
        · rw [if_neg c7] at hf
          refine g_iload_n (j := 3) dX12_readsOperand_156 rfl rfl ?_
          refine g_sub (L' := [(0, rv x0), (1, .int x1), (2, .int x2), (4, .int x4)]) [0, 1, 2, 4] rfl ?_
          exact bX12_readsOperand_157 hX1 hX2 (fun σ x0 x1 x2 x3 x4 hf => ih σ x0 x1 x2 x3 x4 hf) hf
        · rw [if_pos c7] at hf
          refine g_iload (j := 4) dX12_readsOperand_151 rfl ?_
          refine g_goto (tgt := 157) dX12_readsOperand_153 (by decide) ?_
          refine g_sub (L' := [(0, rv x0), (1, .int x1), (2, .int x2), (4, .int x4)]) [0, 1, 2, 4] rfl ?_
          exact bX12_readsOperand_157 hX1 hX2 (fun σ x0 x1 x2 x3 x4 hf => ih σ x0 x1 x2 x3 x4 hf) hf

set_option maxRecDepth 100000 in
set_option maxHeartbeats 4000000 in
theorem wX12_readsOperand (l : Launch) {σ σf : St} {x0 : Nat} {r : Int32} (hf : fX12_readsOperand σ x0 = some (σf, r)) : Con MtX12_readsOperand yX12_readsOperand l σ [rv x0] σf (some (.int r)) := by
  refine Con.of (by decide +kernel) rfl (fun h => absurd (show false = true from h) (by decide)) (by simp only [sl_n, sl_r, sl_i, sl_l]; exact Nat.le_of_ble_eq_true rfl) ?_
  rw [show lv_args 0 [rv x0] = [(0, rv x0)] by simp only [la_n, la_r, la_i, la_l] <;> rfl]
  have hX1 : ((l, σ, σf, .inl (some (.int r))) : Xt).2.2.1 = σf := rfl
  have hX2 : ((l, σ, σf, .inl (some (.int r))) : Xt).2.2.2 = .inl (some (.int r)) := rfl
  unfold fX12_readsOperand at hf
  refine g_aload_n (j := 0) dX12_readsOperand_0 rfl rfl ?_
  obtain ⟨v1, ev1, hf⟩ := ob hf
  refine g_getI dX12_readsOperand_1 ev1 t_1977 hin16 hc16 (by decide) rfl ?_
  refine g_iconst (v := 2) dX12_readsOperand_4 (by decide) ?_
  refine g_icmp_ne (tgt := 29) dX12_readsOperand_5 (by decide) (fun c2 => ?_) (fun c2 => ?_)
  · rw [if_neg c2] at hf
    refine g_aload_n (j := 0) dX12_readsOperand_29 rfl rfl ?_
    refine g_bipush (v := 45) dX12_readsOperand_30 (by decide) ?_
    obtain ⟨_, h5, hf⟩ := ob hf
    obtain ⟨σ3, v4, eσ3, hf⟩ := cb_el hf
    refine g_callV_i dX12_readsOperand_32 (wX12_isNow _ eσ3) (okX12_isNow _ (by decide) (by decide)) (ckK_el h5) hc16 t_2282 t_2284 s_X12_isNow rfl (Nat.le_trans (cat_le _) (Nat.le_of_ble_eq_true rfl)) rfl ?_
    refine g_if_ne (tgt := 47) dX12_readsOperand_35 (by decide) (fun c6 => ?_) (fun c6 => ?_)
    · rw [if_neg c6] at hf
      exact bX12_readsOperand_47 hX1 hX2 hf
    · rw [if_pos c6] at hf
      refine g_aload_n (j := 0) dX12_readsOperand_38 rfl rfl ?_
      refine g_bipush (v := 40) dX12_readsOperand_39 (by decide) ?_
      obtain ⟨_, h9, hf⟩ := ob hf
      obtain ⟨σ7, v8, eσ7, hf⟩ := cb_el hf
      refine g_callV_i dX12_readsOperand_41 (wX12_isNow _ eσ7) (okX12_isNow _ (by decide) (by decide)) (ckK_el h9) hc16 t_2282 t_2284 s_X12_isNow rfl (Nat.le_trans (cat_le _) (Nat.le_of_ble_eq_true rfl)) rfl ?_
      refine g_if_eq (tgt := 85) dX12_readsOperand_44 (by decide) (fun c10 => ?_) (fun c10 => ?_)
      · rw [if_pos c10] at hf
        refine g_aload_n (j := 0) dX12_readsOperand_85 rfl rfl ?_
        obtain ⟨v11, ev11, hf⟩ := ob hf
        refine g_getI dX12_readsOperand_86 ev11 t_1977 hin16 hc16 (by decide) rfl ?_
        refine g_iconst (v := 3) dX12_readsOperand_89 (by decide) ?_
        refine g_icmp_eq (tgt := 95) dX12_readsOperand_90 (by decide) (fun c12 => ?_) (fun c12 => ?_)
        · rw [if_pos c12] at hf
          refine g_aload_n (j := 0) dX12_readsOperand_95 rfl rfl ?_
          obtain ⟨v13, ev13, hf⟩ := ob hf
          refine g_getI dX12_readsOperand_96 ev13 t_1979 hin16 hc16 (by decide) rfl ?_
          refine g_istore_n (i := 1) (L' := [(1, .int v13), (0, rv x0)]) dX12_readsOperand_99 rfl (Nat.le_of_ble_eq_true rfl) (by simp [rv_cat]) ?_
          refine g_aload_n (j := 1) dX12_readsOperand_100 rfl rfl ?_
          obtain ⟨v14, ev14, hf⟩ := ob hf
          refine g_getI dX12_readsOperand_101 ev14 t_1978 hin16 hc16 (by decide) rfl ?_
          refine g_istore_n (i := 2) (L' := [(2, .int v14), (1, .int v13), (0, rv x0)]) dX12_readsOperand_104 rfl (Nat.le_of_ble_eq_true rfl) rfl ?_
          refine g_aload_n (j := 2) dX12_readsOperand_105 rfl rfl ?_
          obtain ⟨_, h17, hf⟩ := ob hf
          obtain ⟨σ15, v16, eσ15, hf⟩ := cb_el hf
          refine g_callV_v dX12_readsOperand_106 (wX12_reads _ eσ15) (okX12_reads _ (by decide) (by decide)) (ckK_el h17) hc16 t_2249 t_2251 s_X12_reads rfl (Nat.le_trans (cat_le _) (Nat.le_of_ble_eq_true rfl)) rfl ?_
          refine g_aload_n (j := 2) dX12_readsOperand_109 rfl rfl ?_
          refine g_bipush (v := 40) dX12_readsOperand_110 (by decide) ?_
          obtain ⟨_, h20, hf⟩ := ob hf
          obtain ⟨σ18, v19, eσ18, hf⟩ := cb_el hf
          refine g_callV_i dX12_readsOperand_112 (wX12_isNow _ eσ18) (okX12_isNow _ (by decide) (by decide)) (ckK_el h20) hc16 t_2282 t_2284 s_X12_isNow rfl (Nat.le_trans (cat_le _) (Nat.le_of_ble_eq_true rfl)) rfl ?_
          refine g_if_ne (tgt := 194) dX12_readsOperand_115 (by decide) (fun c21 => ?_) (fun c21 => ?_)
          · rw [if_neg c21] at hf
            refine g_aload_n (j := 2) dX12_readsOperand_194 rfl rfl ?_
            obtain ⟨v22, ev22, hf⟩ := ob hf
            refine g_getI dX12_readsOperand_195 ev22 t_1998 hin16 hc16 (by decide) rfl ?_
            refine g_bipush (v := 12) dX12_readsOperand_198 (by decide) ?_
            refine g_icmp_ne (tgt := 205) dX12_readsOperand_200 (by decide) (fun c23 => ?_) (fun c23 => ?_)
            · rw [if_neg c23] at hf
              refine g_aload_n (j := 2) dX12_readsOperand_205 rfl rfl ?_
              refine g_bipush (v := 40) dX12_readsOperand_206 (by decide) ?_
              refine g_iload_n (j := 1) dX12_readsOperand_208 rfl rfl ?_
              obtain ⟨_, h26, hf⟩ := ob hf
              obtain ⟨σ24, v25, eσ24, hf⟩ := cb_el hf
              refine g_callV_v dX12_readsOperand_209 (wX12_waitsFor _ eσ24) (okX12_waitsFor _ (by decide) (by decide)) (ckK_el h26) hc16 t_2322 t_2324 s_X12_waitsFor rfl (Nat.le_trans (cat_le _) (Nat.le_of_ble_eq_true rfl)) rfl ?_
              refine g_aload_n (j := 2) dX12_readsOperand_212 rfl rfl ?_
              obtain ⟨v27, ev27, hf⟩ := ob hf
              refine g_getF dX12_readsOperand_213 ev27 t_1994 hin16 hc16 (by decide) rfl ?_
              refine g_aload_n (j := 2) dX12_readsOperand_216 rfl rfl ?_
              obtain ⟨v28, ev28, hf⟩ := ob hf
              refine g_getI dX12_readsOperand_217 ev28 t_1997 hin16 hc16 (by decide) rfl ?_
              refine g_iconst (v := 1) dX12_readsOperand_220 (by decide) ?_
              refine g_isub dX12_readsOperand_221 ?_
              refine g_iload_n (j := 0) dX12_readsOperand_222 rfl rfl ?_
              obtain ⟨σ29, eσ29, hf⟩ := ob hf
              refine g_iast dX12_readsOperand_223 eσ29 ?_
              refine g_aload_n (j := 2) dX12_readsOperand_224 rfl rfl ?_
              obtain ⟨_, h32, hf⟩ := ob hf
              obtain ⟨σ30, v31, eσ30, hf⟩ := cb_el hf
              refine g_callV_v dX12_readsOperand_225 (wX12_reads _ eσ30) (okX12_reads _ (by decide) (by decide)) (ckK_el h32) hc16 t_2249 t_2251 s_X12_reads rfl (Nat.le_trans (cat_le _) (Nat.le_of_ble_eq_true rfl)) rfl ?_
              refine g_iconst (v := 0) dX12_readsOperand_228 (by decide) ?_
              exact g_iret dX12_readsOperand_229 rfl rfl hX2 hX1 hf
            · rw [if_pos c23] at hf
              refine g_iconst (v := (-1)) dX12_readsOperand_203 (by decide) ?_
              exact g_iret dX12_readsOperand_204 rfl rfl hX2 hX1 hf
          · rw [if_pos c21] at hf
            refine g_iconst (v := (-1)) dX12_readsOperand_118 (by decide) ?_
            refine g_istore_n (i := 3) (L' := [(3, .int ((-1))), (2, .int v14), (1, .int v13), (0, rv x0)]) dX12_readsOperand_119 rfl (Nat.le_of_ble_eq_true rfl) rfl ?_
            refine g_iconst (v := 0) dX12_readsOperand_120 (by decide) ?_
            refine g_istore (i := 4) (L' := [(4, .int 0), (3, .int ((-1))), (2, .int v14), (1, .int v13), (0, rv x0)]) dX12_readsOperand_121 (Nat.le_of_ble_eq_true rfl) rfl ?_
            refine g_sub (L' := [(0, rv x0), (1, .int v13), (2, .int v14), (3, .int ((-1))), (4, .int 0)]) [4, 3, 2, 1, 0] rfl ?_
            exact bX12_readsOperand_123 hX1 hX2 FU _ _ _ _ _ _ hf
        · rw [if_neg c12] at hf
          refine g_iconst (v := (-1)) dX12_readsOperand_93 (by decide) ?_
          exact g_iret dX12_readsOperand_94 rfl rfl hX2 hX1 hf
      · rw [if_neg c10] at hf
        exact bX12_readsOperand_47 hX1 hX2 hf
  · rw [if_pos c2] at hf
    refine g_aload_n (j := 0) dX12_readsOperand_8 rfl rfl ?_
    refine g_bipush (v := 30) dX12_readsOperand_9 (by decide) ?_
    refine g_aload_n (j := 0) dX12_readsOperand_11 rfl rfl ?_
    obtain ⟨_, h35, hf⟩ := ob hf
    obtain ⟨σ33, v34, eσ33, hf⟩ := cb_el hf
    refine g_callV_i dX12_readsOperand_12 (wX12_makesNumber _ eσ33) (okX12_makesNumber _ (by decide) (by decide)) (ckK_el h35) hc16 t_2298 t_2300 s_X12_makesNumber rfl (Nat.le_trans (cat_le _) (Nat.le_of_ble_eq_true rfl)) rfl ?_
    refine g_iconst (v := 0) dX12_readsOperand_15 (by decide) ?_
    refine g_aload_n (j := 0) dX12_readsOperand_16 rfl rfl ?_
    obtain ⟨v36, ev36, hf⟩ := ob hf
    refine g_getI dX12_readsOperand_17 ev36 t_1978 hin16 hc16 (by decide) rfl ?_
    obtain ⟨_, h39, hf⟩ := ob hf
    obtain ⟨σ37, v38, eσ37, hf⟩ := cb_el hf
    refine g_callV_v dX12_readsOperand_20 (wX12_makes _ eσ37) (okX12_makes _ (by decide) (by decide)) (ckK_el h39) hc16 t_2318 t_2320 s_X12_makes rfl (Nat.le_trans (cat_le _) (Nat.le_of_ble_eq_true rfl)) rfl ?_
    refine g_aload_n (j := 0) dX12_readsOperand_23 rfl rfl ?_
    obtain ⟨_, h42, hf⟩ := ob hf
    obtain ⟨σ40, v41, eσ40, hf⟩ := cb_el hf
    refine g_callV_v dX12_readsOperand_24 (wX12_reads _ eσ40) (okX12_reads _ (by decide) (by decide)) (ckK_el h42) hc16 t_2249 t_2251 s_X12_reads rfl (Nat.le_trans (cat_le _) (Nat.le_of_ble_eq_true rfl)) rfl ?_
    refine g_iconst (v := 1) dX12_readsOperand_27 (by decide) ?_
    exact g_iret dX12_readsOperand_28 rfl rfl hX2 hX1 hf

theorem okX12_readsOperand (M : Mt) (h1 : 9 + 1 ≤ M.2.2.2.2.1) (h2 : 8 + (5 + 11) + 278 ≤ M.2.2.2.2.2.1) : CallOk M MtX12_readsOperand yX12_readsOperand 0 := ⟨t_2297, h1, h2, ⟨by decide, by decide⟩, by decide +kernel, t_16⟩
abbrev MtX12_rank : Mt := (cX12_rank, 1, "ExactlySaidModel", (Option.some Jvm.ClassFile.FieldType.int), 1, 84, false)
set_option maxRecDepth 100000 in
set_option maxHeartbeats 4000000 in
theorem bX12_rank_10 {X : Xt} {σf : St} {r : Int32} (hX1 : X.2.2.1 = σf) (hX2 : X.2.2.2 = .inl (some (.int r))) {σ : St} (hf : fX12_rank_10 σ  = some (σf, r)) : G MtX12_rank X σ 10 [] [] := by
  unfold fX12_rank_10 at hf
  refine g_iconst (v := 1) dX12_rank_10 (by decide) ?_
  refine g_goto (tgt := 34) dX12_rank_11 (by decide) ?_
  exact g_iret dX12_rank_34 rfl rfl hX2 hX1 hf

set_option maxRecDepth 100000 in
set_option maxHeartbeats 4000000 in
theorem bX12_rank_29 {X : Xt} {σf : St} {r : Int32} (hX1 : X.2.2.1 = σf) (hX2 : X.2.2.2 = .inl (some (.int r))) {σ : St} (hf : fX12_rank_29 σ  = some (σf, r)) : G MtX12_rank X σ 29 [] [] := by
  unfold fX12_rank_29 at hf
  refine g_iconst (v := 2) dX12_rank_29 (by decide) ?_
  refine g_goto (tgt := 34) dX12_rank_30 (by decide) ?_
  exact g_iret dX12_rank_34 rfl rfl hX2 hX1 hf

set_option maxRecDepth 100000 in
set_option maxHeartbeats 4000000 in
theorem wX12_rank (l : Launch) {σ σf : St} {x0 : Int32} {r : Int32} (hf : fX12_rank σ x0 = some (σf, r)) : Con MtX12_rank yX12_rank l σ [.int x0] σf (some (.int r)) := by
  refine Con.of (by decide +kernel) rfl (fun h => absurd (show false = true from h) (by decide)) (by simp only [sl_n, sl_r, sl_i, sl_l]; exact Nat.le_of_ble_eq_true rfl) ?_
  rw [show lv_args 0 [.int x0] = [(0, .int x0)] by simp only [la_n, la_r, la_i, la_l] <;> rfl]
  have hX1 : ((l, σ, σf, .inl (some (.int r))) : Xt).2.2.1 = σf := rfl
  have hX2 : ((l, σ, σf, .inl (some (.int r))) : Xt).2.2.2 = .inl (some (.int r)) := rfl
  unfold fX12_rank at hf
  refine g_iload_n (j := 0) dX12_rank_0 rfl rfl ?_
  refine g_iconst (v := 1) dX12_rank_1 (by decide) ?_
  refine g_icmp_eq (tgt := 10) dX12_rank_2 (by decide) (fun c1 => ?_) (fun c1 => ?_)
  · rw [if_pos c1] at hf
    refine g_sub (L' := []) [] rfl ?_
    exact bX12_rank_10 hX1 hX2 hf
  · rw [if_neg c1] at hf
    refine g_iload_n (j := 0) dX12_rank_5 rfl rfl ?_
    refine g_iconst (v := 2) dX12_rank_6 (by decide) ?_
    refine g_icmp_ne (tgt := 14) dX12_rank_7 (by decide) (fun c2 => ?_) (fun c2 => ?_)
    · rw [if_neg c2] at hf
      refine g_iload_n (j := 0) dX12_rank_14 rfl rfl ?_
      refine g_iconst (v := 3) dX12_rank_15 (by decide) ?_
      refine g_icmp_eq (tgt := 29) dX12_rank_16 (by decide) (fun c3 => ?_) (fun c3 => ?_)
      · rw [if_pos c3] at hf
        refine g_sub (L' := []) [] rfl ?_
        exact bX12_rank_29 hX1 hX2 hf
      · rw [if_neg c3] at hf
        refine g_iload_n (j := 0) dX12_rank_19 rfl rfl ?_
        refine g_iconst (v := 4) dX12_rank_20 (by decide) ?_
        refine g_icmp_eq (tgt := 29) dX12_rank_21 (by decide) (fun c4 => ?_) (fun c4 => ?_)
        · rw [if_pos c4] at hf
          refine g_sub (L' := []) [] rfl ?_
          exact bX12_rank_29 hX1 hX2 hf
        · rw [if_neg c4] at hf
          refine g_iload_n (j := 0) dX12_rank_24 rfl rfl ?_
          refine g_iconst (v := 5) dX12_rank_25 (by decide) ?_
          refine g_icmp_ne (tgt := 33) dX12_rank_26 (by decide) (fun c5 => ?_) (fun c5 => ?_)
          · rw [if_neg c5] at hf
            refine g_iconst (v := 3) dX12_rank_33 (by decide) ?_
            exact g_iret dX12_rank_34 rfl rfl hX2 hX1 hf
          · rw [if_pos c5] at hf
            refine g_sub (L' := []) [] rfl ?_
            exact bX12_rank_29 hX1 hX2 hf
    · rw [if_pos c2] at hf
      refine g_sub (L' := []) [] rfl ?_
      exact bX12_rank_10 hX1 hX2 hf

theorem okX12_rank (M : Mt) (h1 : 1 + 1 ≤ M.2.2.2.2.1) (h2 : 8 + (1 + 11) + 84 ≤ M.2.2.2.2.2.1) : CallOk M MtX12_rank yX12_rank 1 := ⟨t_2340, h1, h2, ⟨by decide, by decide⟩, by decide +kernel, t_16⟩
abbrev MtX12_settles : Mt := (cX12_settles, 2, "ExactlySaidModel", none, 2, 108, false)
set_option maxRecDepth 100000 in
set_option maxHeartbeats 4000000 in
theorem bX12_settles_89 {X : Xt} {σf : St} {r : Unit} (hX1 : X.2.2.1 = σf) (hX2 : X.2.2.2 = .inl (none)) {k0 : St → Nat → Int32 → Option (St × Unit)} (hk0 : ∀ (σ : St) (x0 : Nat) (x1 : Int32), k0 σ x0 x1 = some (σf, r) → G MtX12_settles X σ 0 [(0, rv x0), (1, .int x1)] []) {σ : St} {x0 : Nat} {x1 : Int32} (hf : fX12_settles_89 k0 σ x0 x1 = some (σf, r)) : G MtX12_settles X σ 89 [(0, rv x0), (1, .int x1)] [] := by
  unfold fX12_settles_89 at hf
  refine g_aload_n (j := 0) dX12_settles_89 rfl rfl ?_
  refine g_aload_n (j := 0) dX12_settles_90 rfl rfl ?_
  obtain ⟨v1, ev1, hf⟩ := ob hf
  refine g_getF dX12_settles_91 ev1 t_1993 hin16 hc16 (by decide) rfl ?_
  refine g_aload_n (j := 0) dX12_settles_94 rfl rfl ?_
  obtain ⟨v2, ev2, hf⟩ := ob hf
  refine g_getI dX12_settles_95 ev2 t_1997 hin16 hc16 (by decide) rfl ?_
  obtain ⟨v3, ev3, hf⟩ := ob hf
  refine g_iald dX12_settles_98 ev3 ?_
  refine g_iconst (v := 0) dX12_settles_99 (by decide) ?_
  refine g_iconst (v := 0) dX12_settles_100 (by decide) ?_
  refine g_aload_n (j := 0) dX12_settles_101 rfl rfl ?_
  obtain ⟨v4, ev4, hf⟩ := ob hf
  refine g_getF dX12_settles_102 ev4 t_1994 hin16 hc16 (by decide) rfl ?_
  refine g_aload_n (j := 0) dX12_settles_105 rfl rfl ?_
  obtain ⟨v5, ev5, hf⟩ := ob hf
  refine g_getI dX12_settles_106 ev5 t_1997 hin16 hc16 (by decide) rfl ?_
  obtain ⟨v6, ev6, hf⟩ := ob hf
  refine g_iald dX12_settles_109 ev6 ?_
  obtain ⟨_, h9, hf⟩ := ob hf
  obtain ⟨σ7, v8, eσ7, hf⟩ := cb_el hf
  refine g_callV_v dX12_settles_110 (wX12_makes _ eσ7) (okX12_makes _ (by decide) (by decide)) (ckK_el h9) hc16 t_2318 t_2320 s_X12_makes rfl (Nat.le_trans (cat_le _) (Nat.le_of_ble_eq_true rfl)) rfl ?_
  refine g_goto (tgt := 0) dX12_settles_113 (by decide) ?_
  exact hk0 _ _ _ hf

set_option maxRecDepth 100000 in
set_option maxHeartbeats 4000000 in
theorem bX12_settles_79 {X : Xt} {σf : St} {r : Unit} (hX1 : X.2.2.1 = σf) (hX2 : X.2.2.2 = .inl (none)) {k0 : St → Nat → Int32 → Option (St × Unit)} (hk0 : ∀ (σ : St) (x0 : Nat) (x1 : Int32), k0 σ x0 x1 = some (σf, r) → G MtX12_settles X σ 0 [(0, rv x0), (1, .int x1)] []) {σ : St} {x0 : Nat} {x1 : Int32} (hf : fX12_settles_79 k0 σ x0 x1 = some (σf, r)) : G MtX12_settles X σ 79 [(0, rv x0), (1, .int x1)] [] := by
  unfold fX12_settles_79 at hf
  refine g_aload_n (j := 0) dX12_settles_79 rfl rfl ?_
  refine g_dup dX12_settles_80 (rv_cat _) ?_
  obtain ⟨v1, ev1, hf⟩ := ob hf
  refine g_getI dX12_settles_81 ev1 t_1998 hin16 hc16 (by decide) rfl ?_
  refine g_iconst (v := 1) dX12_settles_84 (by decide) ?_
  refine g_isub dX12_settles_85 ?_
  obtain ⟨σ2, eσ2, hf⟩ := ob hf
  refine g_putI dX12_settles_86 eσ2 (Or.inl t_1998) hin16 hc16 (by decide) hty16 hnm16 (Or.inl rfl) rfl rfl rfl ?_
  exact bX12_settles_89 hX1 hX2 hk0 hf

set_option maxRecDepth 100000 in
set_option maxHeartbeats 4000000 in
theorem bX12_settles_0 {X : Xt} {σf : St} {r : Unit} (hX1 : X.2.2.1 = σf) (hX2 : X.2.2.2 = .inl (none)) : ∀ (n : Nat) (σ : St) (x0 : Nat) (x1 : Int32), fX12_settles_0 n σ x0 x1 = some (σf, r) → G MtX12_settles X σ 0 [(0, rv x0), (1, .int x1)] [] := by
  intro n
  induction n with
  | zero => intro σ x0 x1 hf; cases hf
  | succ n ih =>
    intro σ x0 x1 hf
    rw [fX12_settles_0] at hf
    refine g_aload_n (j := 0) dX12_settles_0 rfl rfl ?_
    obtain ⟨v1, ev1, hf⟩ := ob hf
    refine g_getI dX12_settles_1 ev1 t_1997 hin16 hc16 (by decide) rfl ?_
    refine g_if_le (tgt := 116) dX12_settles_4 (by decide) (fun c2 => ?_) (fun c2 => ?_)
    · rw [if_pos c2] at hf
      exact g_vret dX12_settles_116 rfl hX2 hX1 hf
    · rw [if_neg c2] at hf
      refine g_aload_n (j := 0) dX12_settles_7 rfl rfl ?_
      obtain ⟨v3, ev3, hf⟩ := ob hf
      refine g_getF dX12_settles_8 ev3 t_1993 hin16 hc16 (by decide) rfl ?_
      refine g_aload_n (j := 0) dX12_settles_11 rfl rfl ?_
      obtain ⟨v4, ev4, hf⟩ := ob hf
      refine g_getI dX12_settles_12 ev4 t_1997 hin16 hc16 (by decide) rfl ?_
      refine g_iconst (v := 1) dX12_settles_15 (by decide) ?_
      refine g_isub dX12_settles_16 ?_
      obtain ⟨v5, ev5, hf⟩ := ob hf
      refine g_iald dX12_settles_17 ev5 ?_
      refine g_bipush (v := 40) dX12_settles_18 (by decide) ?_
      refine g_icmp_eq (tgt := 116) dX12_settles_20 (by decide) (fun c6 => ?_) (fun c6 => ?_)
      · rw [if_pos c6] at hf
        exact g_vret dX12_settles_116 rfl hX2 hX1 hf
      · rw [if_neg c6] at hf
        refine g_aload_n (j := 0) dX12_settles_23 rfl rfl ?_
        obtain ⟨v7, ev7, hf⟩ := ob hf
        refine g_getF dX12_settles_24 ev7 t_1993 hin16 hc16 (by decide) rfl ?_
        refine g_aload_n (j := 0) dX12_settles_27 rfl rfl ?_
        obtain ⟨v8, ev8, hf⟩ := ob hf
        refine g_getI dX12_settles_28 ev8 t_1997 hin16 hc16 (by decide) rfl ?_
        refine g_iconst (v := 1) dX12_settles_31 (by decide) ?_
        refine g_isub dX12_settles_32 ?_
        obtain ⟨v9, ev9, hf⟩ := ob hf
        refine g_iald dX12_settles_33 ev9 ?_
        obtain ⟨σ10, v11, eσ10, hf⟩ := cb_el hf
        refine g_callS_i dX12_settles_34 (wX12_rank _ eσ10) (okX12_rank _ (by decide) (by decide)) t_2338 t_2339 rfl (Nat.le_trans (cat_le _) (Nat.le_of_ble_eq_true rfl)) rfl ?_
        refine g_iload_n (j := 1) dX12_settles_37 rfl rfl ?_
        refine g_icmp_lt (tgt := 116) dX12_settles_38 (by decide) (fun c12 => ?_) (fun c12 => ?_)
        · rw [if_pos c12] at hf
          exact g_vret dX12_settles_116 rfl hX2 hX1 hf
        · rw [if_neg c12] at hf
          refine g_aload_n (j := 0) dX12_settles_41 rfl rfl ?_
          refine g_dup dX12_settles_42 (rv_cat _) ?_
          obtain ⟨v13, ev13, hf⟩ := ob hf
          refine g_getI dX12_settles_43 ev13 t_1997 hin16 hc16 (by decide) rfl ?_
          refine g_iconst (v := 1) dX12_settles_46 (by decide) ?_
          refine g_isub dX12_settles_47 ?_
          obtain ⟨σ14, eσ14, hf⟩ := ob hf
          refine g_putI dX12_settles_48 eσ14 (Or.inl t_1997) hin16 hc16 (by decide) hty16 hnm16 (Or.inl rfl) rfl rfl rfl ?_
          refine g_aload_n (j := 0) dX12_settles_51 rfl rfl ?_
          obtain ⟨v15, ev15, hf⟩ := ob hf
          refine g_getF dX12_settles_52 ev15 t_1993 hin16 hc16 (by decide) rfl ?_
          refine g_aload_n (j := 0) dX12_settles_55 rfl rfl ?_
          obtain ⟨v16, ev16, hf⟩ := ob hf
          refine g_getI dX12_settles_56 ev16 t_1997 hin16 hc16 (by decide) rfl ?_
          obtain ⟨v17, ev17, hf⟩ := ob hf
          refine g_iald dX12_settles_59 ev17 ?_
          refine g_bipush (v := 8) dX12_settles_60 (by decide) ?_
          refine g_icmp_eq (tgt := 79) dX12_settles_62 (by decide) (fun c18 => ?_) (fun c18 => ?_)
          · rw [if_pos c18] at hf
            exact bX12_settles_79 hX1 hX2 (fun σ x0 x1 hf => ih σ x0 x1 hf) hf
          · rw [if_neg c18] at hf
            refine g_aload_n (j := 0) dX12_settles_65 rfl rfl ?_
            obtain ⟨v19, ev19, hf⟩ := ob hf
            refine g_getF dX12_settles_66 ev19 t_1993 hin16 hc16 (by decide) rfl ?_
            refine g_aload_n (j := 0) dX12_settles_69 rfl rfl ?_
            obtain ⟨v20, ev20, hf⟩ := ob hf
            refine g_getI dX12_settles_70 ev20 t_1997 hin16 hc16 (by decide) rfl ?_
            obtain ⟨v21, ev21, hf⟩ := ob hf
            refine g_iald dX12_settles_73 ev21 ?_
            refine g_bipush (v := 6) dX12_settles_74 (by decide) ?_
            refine g_icmp_ne (tgt := 89) dX12_settles_76 (by decide) (fun c22 => ?_) (fun c22 => ?_)
            · rw [if_neg c22] at hf
              exact bX12_settles_89 hX1 hX2 (fun σ x0 x1 hf => ih σ x0 x1 hf) hf
            · rw [if_pos c22] at hf
              exact bX12_settles_79 hX1 hX2 (fun σ x0 x1 hf => ih σ x0 x1 hf) hf

set_option maxRecDepth 100000 in
set_option maxHeartbeats 4000000 in
theorem wX12_settles (l : Launch) {σ σf : St} {x0 : Nat} {x1 : Int32} {r : Unit} (hf : fX12_settles σ x0 x1 = some (σf, r)) : Con MtX12_settles yX12_settles l σ [rv x0, .int x1] σf (none) := by
  refine Con.of (by decide +kernel) rfl (fun h => absurd (show false = true from h) (by decide)) (by simp only [sl_n, sl_r, sl_i, sl_l]; exact Nat.le_of_ble_eq_true rfl) ?_
  rw [show lv_args 0 [rv x0, .int x1] = [(0, rv x0), (1, .int x1)] by simp only [la_n, la_r, la_i, la_l] <;> rfl]
  exact bX12_settles_0 rfl rfl FU _ _ _ hf

theorem okX12_settles (M : Mt) (h1 : 2 + 1 ≤ M.2.2.2.2.1) (h2 : 8 + (2 + 11) + 108 ≤ M.2.2.2.2.2.1) : CallOk M MtX12_settles yX12_settles 1 := ⟨t_2337, h1, h2, ⟨by decide, by decide⟩, by decide +kernel, t_16⟩
abbrev MtX12_closes : Mt := (cX12_closes, 2, "ExactlySaidModel", (Option.some Jvm.ClassFile.FieldType.boolean), 3, 129, false)
set_option maxRecDepth 100000 in
set_option maxHeartbeats 4000000 in
theorem wX12_closes (l : Launch) {σ σf : St} {x0 : Nat} {r : Int32} (hf : fX12_closes σ x0 = some (σf, r)) : Con MtX12_closes yX12_closes l σ [rv x0] σf (some (.int r)) := by
  refine Con.of (by decide +kernel) rfl (fun h => absurd (show false = true from h) (by decide)) (by simp only [sl_n, sl_r, sl_i, sl_l]; exact Nat.le_of_ble_eq_true rfl) ?_
  rw [show lv_args 0 [rv x0] = [(0, rv x0)] by simp only [la_n, la_r, la_i, la_l] <;> rfl]
  have hX1 : ((l, σ, σf, .inl (some (.int r))) : Xt).2.2.1 = σf := rfl
  have hX2 : ((l, σ, σf, .inl (some (.int r))) : Xt).2.2.2 = .inl (some (.int r)) := rfl
  unfold fX12_closes at hf
  refine g_aload_n (j := 0) dX12_closes_0 rfl rfl ?_
  refine g_iconst (v := 1) dX12_closes_1 (by decide) ?_
  obtain ⟨_, h3, hf⟩ := ob hf
  obtain ⟨σ1, v2, eσ1, hf⟩ := cb_el hf
  refine g_callV_v dX12_closes_2 (wX12_settles _ eσ1) (okX12_settles _ (by decide) (by decide)) (ckK_el h3) hc16 t_2334 t_2336 s_X12_settles rfl (Nat.le_trans (cat_le _) (Nat.le_of_ble_eq_true rfl)) rfl ?_
  refine g_aload_n (j := 0) dX12_closes_5 rfl rfl ?_
  obtain ⟨v4, ev4, hf⟩ := ob hf
  refine g_getI dX12_closes_6 ev4 t_1997 hin16 hc16 (by decide) rfl ?_
  refine g_if_ne (tgt := 14) dX12_closes_9 (by decide) (fun c5 => ?_) (fun c5 => ?_)
  · rw [if_neg c5] at hf
    refine g_aload_n (j := 0) dX12_closes_14 rfl rfl ?_
    refine g_dup dX12_closes_15 (rv_cat _) ?_
    obtain ⟨v6, ev6, hf⟩ := ob hf
    refine g_getI dX12_closes_16 ev6 t_1997 hin16 hc16 (by decide) rfl ?_
    refine g_iconst (v := 1) dX12_closes_19 (by decide) ?_
    refine g_isub dX12_closes_20 ?_
    obtain ⟨σ7, eσ7, hf⟩ := ob hf
    refine g_putI dX12_closes_21 eσ7 (Or.inl t_1997) hin16 hc16 (by decide) hty16 hnm16 (Or.inl rfl) rfl rfl rfl ?_
    refine g_aload_n (j := 0) dX12_closes_24 rfl rfl ?_
    refine g_dup dX12_closes_25 (rv_cat _) ?_
    obtain ⟨v8, ev8, hf⟩ := ob hf
    refine g_getI dX12_closes_26 ev8 t_1998 hin16 hc16 (by decide) rfl ?_
    refine g_iconst (v := 1) dX12_closes_29 (by decide) ?_
    refine g_isub dX12_closes_30 ?_
    obtain ⟨σ9, eσ9, hf⟩ := ob hf
    refine g_putI dX12_closes_31 eσ9 (Or.inl t_1998) hin16 hc16 (by decide) hty16 hnm16 (Or.inl rfl) rfl rfl rfl ?_
    refine g_aload_n (j := 0) dX12_closes_34 rfl rfl ?_
    obtain ⟨v10, ev10, hf⟩ := ob hf
    refine g_getF dX12_closes_35 ev10 t_1995 hin16 hc16 (by decide) rfl ?_
    refine g_aload_n (j := 0) dX12_closes_38 rfl rfl ?_
    obtain ⟨v11, ev11, hf⟩ := ob hf
    refine g_getI dX12_closes_39 ev11 t_1997 hin16 hc16 (by decide) rfl ?_
    obtain ⟨v12, ev12, hf⟩ := ob hf
    refine g_iald dX12_closes_42 ev12 ?_
    refine g_istore_n (i := 1) (L' := [(1, .int v12), (0, rv x0)]) dX12_closes_43 rfl (Nat.le_of_ble_eq_true rfl) (by simp [rv_cat]) ?_
    refine g_iload_n (j := 0) dX12_closes_44 rfl rfl ?_
    refine g_iconst (v := (-1)) dX12_closes_45 (by decide) ?_
    refine g_icmp_ne (tgt := 51) dX12_closes_46 (by decide) (fun c13 => ?_) (fun c13 => ?_)
    · rw [if_neg c13] at hf
      refine g_aload_n (j := 1) dX12_closes_51 rfl rfl ?_
      refine g_bipush (v := 33) dX12_closes_52 (by decide) ?_
      refine g_iload_n (j := 0) dX12_closes_54 rfl rfl ?_
      refine g_aload_n (j := 1) dX12_closes_55 rfl rfl ?_
      obtain ⟨v14, ev14, hf⟩ := ob hf
      refine g_getF dX12_closes_56 ev14 t_1996 hin16 hc16 (by decide) rfl ?_
      refine g_aload_n (j := 1) dX12_closes_59 rfl rfl ?_
      obtain ⟨v15, ev15, hf⟩ := ob hf
      refine g_getI dX12_closes_60 ev15 t_1997 hin16 hc16 (by decide) rfl ?_
      obtain ⟨v16, ev16, hf⟩ := ob hf
      refine g_iald dX12_closes_63 ev16 ?_
      refine g_aload_n (j := 1) dX12_closes_64 rfl rfl ?_
      obtain ⟨v17, ev17, hf⟩ := ob hf
      refine g_getF dX12_closes_65 ev17 t_1994 hin16 hc16 (by decide) rfl ?_
      refine g_aload_n (j := 1) dX12_closes_68 rfl rfl ?_
      obtain ⟨v18, ev18, hf⟩ := ob hf
      refine g_getI dX12_closes_69 ev18 t_1997 hin16 hc16 (by decide) rfl ?_
      obtain ⟨v19, ev19, hf⟩ := ob hf
      refine g_iald dX12_closes_72 ev19 ?_
      obtain ⟨_, h22, hf⟩ := ob hf
      obtain ⟨σ20, v21, eσ20, hf⟩ := cb_el hf
      refine g_callV_v dX12_closes_73 (wX12_makes _ eσ20) (okX12_makes _ (by decide) (by decide)) (ckK_el h22) hc16 t_2318 t_2320 s_X12_makes rfl (Nat.le_trans (cat_le _) (Nat.le_of_ble_eq_true rfl)) rfl ?_
      refine g_iconst (v := 1) dX12_closes_76 (by decide) ?_
      exact g_iret dX12_closes_77 rfl (by decide) hX2 hX1 hf
    · rw [if_pos c13] at hf
      refine g_iconst (v := 1) dX12_closes_49 (by decide) ?_
      exact g_iret dX12_closes_50 rfl (by decide) hX2 hX1 hf
  · rw [if_pos c5] at hf
    refine g_iconst (v := 0) dX12_closes_12 (by decide) ?_
    exact g_iret dX12_closes_13 rfl (by decide) hX2 hX1 hf

theorem okX12_closes (M : Mt) (h1 : 3 + 1 ≤ M.2.2.2.2.1) (h2 : 8 + (2 + 11) + 129 ≤ M.2.2.2.2.2.1) : CallOk M MtX12_closes yX12_closes 0 := ⟨t_2333, h1, h2, ⟨by decide, by decide⟩, by decide +kernel, t_16⟩
abbrev MtX12_signOf : Mt := (cX12_signOf, 2, "ExactlySaidModel", (Option.some Jvm.ClassFile.FieldType.int), 1, 84, false)
set_option maxRecDepth 100000 in
set_option maxHeartbeats 4000000 in
theorem wX12_signOf (l : Launch) {σ σf : St} {x0 : Nat} {x1 : Int32} {r : Int32} (hf : fX12_signOf σ x0 x1 = some (σf, r)) : Con MtX12_signOf yX12_signOf l σ [rv x0, .int x1] σf (some (.int r)) := by
  refine Con.of (by decide +kernel) rfl (fun h => absurd (show false = true from h) (by decide)) (by simp only [sl_n, sl_r, sl_i, sl_l]; exact Nat.le_of_ble_eq_true rfl) ?_
  rw [show lv_args 0 [rv x0, .int x1] = [(0, rv x0), (1, .int x1)] by simp only [la_n, la_r, la_i, la_l] <;> rfl]
  have hX1 : ((l, σ, σf, .inl (some (.int r))) : Xt).2.2.1 = σf := rfl
  have hX2 : ((l, σ, σf, .inl (some (.int r))) : Xt).2.2.2 = .inl (some (.int r)) := rfl
  unfold fX12_signOf at hf
  refine g_iload_n (j := 1) dX12_signOf_0 rfl rfl ?_
  refine g_bipush (v := 43) dX12_signOf_1 (by decide) ?_
  refine g_icmp_ne (tgt := 10) dX12_signOf_3 (by decide) (fun c1 => ?_) (fun c1 => ?_)
  · rw [if_neg c1] at hf
    refine g_iload_n (j := 1) dX12_signOf_10 rfl rfl ?_
    refine g_bipush (v := 45) dX12_signOf_11 (by decide) ?_
    refine g_icmp_ne (tgt := 20) dX12_signOf_13 (by decide) (fun c2 => ?_) (fun c2 => ?_)
    · rw [if_neg c2] at hf
      refine g_iload_n (j := 1) dX12_signOf_20 rfl rfl ?_
      refine g_bipush (v := 42) dX12_signOf_21 (by decide) ?_
      refine g_icmp_ne (tgt := 30) dX12_signOf_23 (by decide) (fun c3 => ?_) (fun c3 => ?_)
      · rw [if_neg c3] at hf
        refine g_iload_n (j := 1) dX12_signOf_30 rfl rfl ?_
        refine g_bipush (v := 47) dX12_signOf_31 (by decide) ?_
        refine g_icmp_ne (tgt := 40) dX12_signOf_33 (by decide) (fun c4 => ?_) (fun c4 => ?_)
        · rw [if_neg c4] at hf
          refine g_iload_n (j := 1) dX12_signOf_40 rfl rfl ?_
          refine g_bipush (v := 37) dX12_signOf_41 (by decide) ?_
          refine g_icmp_ne (tgt := 50) dX12_signOf_43 (by decide) (fun c5 => ?_) (fun c5 => ?_)
          · rw [if_neg c5] at hf
            refine g_iconst (v := 0) dX12_signOf_50 (by decide) ?_
            exact g_iret dX12_signOf_51 rfl rfl hX2 hX1 hf
          · rw [if_pos c5] at hf
            refine g_iconst (v := 5) dX12_signOf_46 (by decide) ?_
            refine g_goto (tgt := 51) dX12_signOf_47 (by decide) ?_
            exact g_iret dX12_signOf_51 rfl rfl hX2 hX1 hf
        · rw [if_pos c4] at hf
          refine g_iconst (v := 4) dX12_signOf_36 (by decide) ?_
          refine g_goto (tgt := 51) dX12_signOf_37 (by decide) ?_
          exact g_iret dX12_signOf_51 rfl rfl hX2 hX1 hf
      · rw [if_pos c3] at hf
        refine g_iconst (v := 3) dX12_signOf_26 (by decide) ?_
        refine g_goto (tgt := 51) dX12_signOf_27 (by decide) ?_
        exact g_iret dX12_signOf_51 rfl rfl hX2 hX1 hf
    · rw [if_pos c2] at hf
      refine g_iconst (v := 2) dX12_signOf_16 (by decide) ?_
      refine g_goto (tgt := 51) dX12_signOf_17 (by decide) ?_
      exact g_iret dX12_signOf_51 rfl rfl hX2 hX1 hf
  · rw [if_pos c1] at hf
    refine g_iconst (v := 1) dX12_signOf_6 (by decide) ?_
    refine g_goto (tgt := 51) dX12_signOf_7 (by decide) ?_
    exact g_iret dX12_signOf_51 rfl rfl hX2 hX1 hf

theorem okX12_signOf (M : Mt) (h1 : 1 + 1 ≤ M.2.2.2.2.1) (h2 : 8 + (2 + 11) + 84 ≤ M.2.2.2.2.2.1) : CallOk M MtX12_signOf yX12_signOf 1 := ⟨t_2344, h1, h2, ⟨by decide, by decide⟩, by decide +kernel, t_16⟩
abbrev MtX12_readsBehind : Mt := (cX12_readsBehind, 2, "ExactlySaidModel", (Option.some Jvm.ClassFile.FieldType.int), 7, 213, false)
set_option maxRecDepth 100000 in
set_option maxHeartbeats 4000000 in
theorem bX12_readsBehind_205 {X : Xt} {σf : St} {r : Int32} (hX1 : X.2.2.1 = σf) (hX2 : X.2.2.2 = .inl (some (.int r))) {σ : St} {x0 : Nat} {y0 : Int32} (hf : fX12_readsBehind_205 σ x0 y0 = some (σf, r)) : G MtX12_readsBehind X σ 205 [(0, rv x0)] [.int y0] := by
  unfold fX12_readsBehind_205 at hf
  refine g_istore_n (i := 1) (L' := [(1, .int y0), (0, rv x0)]) dX12_readsBehind_205 rfl (Nat.le_of_ble_eq_true rfl) (by simp [rv_cat]) ?_
  refine g_aload_n (j := 1) dX12_readsBehind_206 rfl rfl ?_
  obtain ⟨_, h3, hf⟩ := ob hf
  obtain ⟨σ1, v2, eσ1, hf⟩ := cb_el hf
  refine g_callV_v dX12_readsBehind_207 (wX12_reads _ eσ1) (okX12_reads _ (by decide) (by decide)) (ckK_el h3) hc16 t_2249 t_2251 s_X12_reads rfl (Nat.le_trans (cat_le _) (Nat.le_of_ble_eq_true rfl)) rfl ?_
  refine g_iload_n (j := 0) dX12_readsBehind_210 rfl rfl ?_
  exact g_iret dX12_readsBehind_211 rfl rfl hX2 hX1 hf

set_option maxRecDepth 100000 in
set_option maxHeartbeats 4000000 in
theorem bX12_readsBehind_200 {X : Xt} {σf : St} {r : Int32} (hX1 : X.2.2.1 = σf) (hX2 : X.2.2.2 = .inl (some (.int r))) {σ : St} {x0 : Nat} (hf : fX12_readsBehind_200 σ x0 = some (σf, r)) : G MtX12_readsBehind X σ 200 [(0, rv x0)] [] := by
  unfold fX12_readsBehind_200 at hf
  refine g_iconst (v := 1) dX12_readsBehind_200 (by decide) ?_
  refine g_goto (tgt := 205) dX12_readsBehind_201 (by decide) ?_
  exact bX12_readsBehind_205 hX1 hX2 hf

set_option maxRecDepth 100000 in
set_option maxHeartbeats 4000000 in
theorem bX12_readsBehind_182 {X : Xt} {σf : St} {r : Int32} (hX1 : X.2.2.1 = σf) (hX2 : X.2.2.2 = .inl (some (.int r))) {σ : St} {x0 : Nat} (hf : fX12_readsBehind_182 σ x0 = some (σf, r)) : G MtX12_readsBehind X σ 182 [(0, rv x0)] [] := by
  unfold fX12_readsBehind_182 at hf
  refine g_aload_n (j := 0) dX12_readsBehind_182 rfl rfl ?_
  obtain ⟨v1, ev1, hf⟩ := ob hf
  refine g_getI dX12_readsBehind_183 ev1 t_1979 hin16 hc16 (by decide) rfl ?_
  refine g_bipush (v := 33) dX12_readsBehind_186 (by decide) ?_
  refine g_icmp_eq (tgt := 200) dX12_readsBehind_188 (by decide) (fun c2 => ?_) (fun c2 => ?_)
  · rw [if_pos c2] at hf
    exact bX12_readsBehind_200 hX1 hX2 hf
  · rw [if_neg c2] at hf
    refine g_aload_n (j := 0) dX12_readsBehind_191 rfl rfl ?_
    obtain ⟨v3, ev3, hf⟩ := ob hf
    refine g_getI dX12_readsBehind_192 ev3 t_1979 hin16 hc16 (by decide) rfl ?_
    refine g_bipush (v := 41) dX12_readsBehind_195 (by decide) ?_
    refine g_icmp_ne (tgt := 204) dX12_readsBehind_197 (by decide) (fun c4 => ?_) (fun c4 => ?_)
    · rw [if_neg c4] at hf
      refine g_iconst (v := 0) dX12_readsBehind_204 (by decide) ?_
      exact bX12_readsBehind_205 hX1 hX2 hf
    · rw [if_pos c4] at hf
      exact bX12_readsBehind_200 hX1 hX2 hf

set_option maxRecDepth 100000 in
set_option maxHeartbeats 4000000 in
theorem wX12_readsBehind (l : Launch) {σ σf : St} {x0 : Nat} {r : Int32} (hf : fX12_readsBehind σ x0 = some (σf, r)) : Con MtX12_readsBehind yX12_readsBehind l σ [rv x0] σf (some (.int r)) := by
  refine Con.of (by decide +kernel) rfl (fun h => absurd (show false = true from h) (by decide)) (by simp only [sl_n, sl_r, sl_i, sl_l]; exact Nat.le_of_ble_eq_true rfl) ?_
  rw [show lv_args 0 [rv x0] = [(0, rv x0)] by simp only [la_n, la_r, la_i, la_l] <;> rfl]
  have hX1 : ((l, σ, σf, .inl (some (.int r))) : Xt).2.2.1 = σf := rfl
  have hX2 : ((l, σ, σf, .inl (some (.int r))) : Xt).2.2.2 = .inl (some (.int r)) := rfl
  unfold fX12_readsBehind at hf
  refine g_aload_n (j := 0) dX12_readsBehind_0 rfl rfl ?_
  obtain ⟨v1, ev1, hf⟩ := ob hf
  refine g_getI dX12_readsBehind_1 ev1 t_1977 hin16 hc16 (by decide) rfl ?_
  refine g_iconst (v := 1) dX12_readsBehind_4 (by decide) ?_
  refine g_icmp_eq (tgt := 10) dX12_readsBehind_5 (by decide) (fun c2 => ?_) (fun c2 => ?_)
  · rw [if_pos c2] at hf
    refine g_aload_n (j := 0) dX12_readsBehind_10 rfl rfl ?_
    obtain ⟨v3, ev3, hf⟩ := ob hf
    refine g_getI dX12_readsBehind_11 ev3 t_1979 hin16 hc16 (by decide) rfl ?_
    refine g_bipush (v := 33) dX12_readsBehind_14 (by decide) ?_
    refine g_icmp_ne (tgt := 34) dX12_readsBehind_16 (by decide) (fun c4 => ?_) (fun c4 => ?_)
    · rw [if_neg c4] at hf
      refine g_aload_n (j := 0) dX12_readsBehind_34 rfl rfl ?_
      obtain ⟨v5, ev5, hf⟩ := ob hf
      refine g_getI dX12_readsBehind_35 ev5 t_1979 hin16 hc16 (by decide) rfl ?_
      refine g_bipush (v := 41) dX12_readsBehind_38 (by decide) ?_
      refine g_icmp_ne (tgt := 52) dX12_readsBehind_40 (by decide) (fun c6 => ?_) (fun c6 => ?_)
      · rw [if_neg c6] at hf
        refine g_aload_n (j := 0) dX12_readsBehind_52 rfl rfl ?_
        obtain ⟨v7, ev7, hf⟩ := ob hf
        refine g_getI dX12_readsBehind_53 ev7 t_1979 hin16 hc16 (by decide) rfl ?_
        refine g_bipush (v := 94) dX12_readsBehind_56 (by decide) ?_
        refine g_icmp_ne (tgt := 82) dX12_readsBehind_58 (by decide) (fun c8 => ?_) (fun c8 => ?_)
        · rw [if_neg c8] at hf
          refine g_aload_n (j := 0) dX12_readsBehind_82 rfl rfl ?_
          obtain ⟨v9, ev9, hf⟩ := ob hf
          refine g_getI dX12_readsBehind_83 ev9 t_1979 hin16 hc16 (by decide) rfl ?_
          refine g_bipush (v := 44) dX12_readsBehind_86 (by decide) ?_
          refine g_icmp_ne (tgt := 138) dX12_readsBehind_88 (by decide) (fun c10 => ?_) (fun c10 => ?_)
          · rw [if_neg c10] at hf
            refine g_aload_n (j := 0) dX12_readsBehind_138 rfl rfl ?_
            refine g_aload_n (j := 0) dX12_readsBehind_139 rfl rfl ?_
            obtain ⟨v11, ev11, hf⟩ := ob hf
            refine g_getI dX12_readsBehind_140 ev11 t_1979 hin16 hc16 (by decide) rfl ?_
            obtain ⟨_, h14, hf⟩ := ob hf
            obtain ⟨σ12, v13, eσ12, hf⟩ := cb_el hf
            refine g_callV_i dX12_readsBehind_143 (wX12_signOf _ eσ12) (okX12_signOf _ (by decide) (by decide)) (ckK_el h14) hc16 t_2341 t_2343 s_X12_signOf rfl (Nat.le_trans (cat_le _) (Nat.le_of_ble_eq_true rfl)) rfl ?_
            refine g_if_le (tgt := 180) dX12_readsBehind_146 (by decide) (fun c15 => ?_) (fun c15 => ?_)
            · rw [if_pos c15] at hf
              refine g_iconst (v := (-1)) dX12_readsBehind_180 (by decide) ?_
              exact g_iret dX12_readsBehind_181 rfl rfl hX2 hX1 hf
            · rw [if_neg c15] at hf
              refine g_aload_n (j := 0) dX12_readsBehind_149 rfl rfl ?_
              refine g_aload_n (j := 0) dX12_readsBehind_150 rfl rfl ?_
              refine g_aload_n (j := 0) dX12_readsBehind_151 rfl rfl ?_
              obtain ⟨v16, ev16, hf⟩ := ob hf
              refine g_getI dX12_readsBehind_152 ev16 t_1979 hin16 hc16 (by decide) rfl ?_
              obtain ⟨_, h19, hf⟩ := ob hf
              obtain ⟨σ17, v18, eσ17, hf⟩ := cb_el hf
              refine g_callV_i dX12_readsBehind_155 (wX12_signOf _ eσ17) (okX12_signOf _ (by decide) (by decide)) (ckK_el h19) hc16 t_2341 t_2343 s_X12_signOf rfl (Nat.le_trans (cat_le _) (Nat.le_of_ble_eq_true rfl)) rfl ?_
              obtain ⟨σ20, v21, eσ20, hf⟩ := cb_el hf
              refine g_callS_i dX12_readsBehind_158 (wX12_rank _ eσ20) (okX12_rank _ (by decide) (by decide)) t_2338 t_2339 rfl (Nat.le_trans (cat_le _) (Nat.le_of_ble_eq_true rfl)) rfl ?_
              obtain ⟨_, h24, hf⟩ := ob hf
              obtain ⟨σ22, v23, eσ22, hf⟩ := cb_el hf
              refine g_callV_v dX12_readsBehind_161 (wX12_settles _ eσ22) (okX12_settles _ (by decide) (by decide)) (ckK_el h24) hc16 t_2334 t_2336 s_X12_settles rfl (Nat.le_trans (cat_le _) (Nat.le_of_ble_eq_true rfl)) rfl ?_
              refine g_aload_n (j := 0) dX12_readsBehind_164 rfl rfl ?_
              refine g_aload_n (j := 0) dX12_readsBehind_165 rfl rfl ?_
              refine g_aload_n (j := 0) dX12_readsBehind_166 rfl rfl ?_
              obtain ⟨v25, ev25, hf⟩ := ob hf
              refine g_getI dX12_readsBehind_167 ev25 t_1979 hin16 hc16 (by decide) rfl ?_
              obtain ⟨_, h28, hf⟩ := ob hf
              obtain ⟨σ26, v27, eσ26, hf⟩ := cb_el hf
              refine g_callV_i dX12_readsBehind_170 (wX12_signOf _ eσ26) (okX12_signOf _ (by decide) (by decide)) (ckK_el h28) hc16 t_2341 t_2343 s_X12_signOf rfl (Nat.le_trans (cat_le _) (Nat.le_of_ble_eq_true rfl)) rfl ?_
              refine g_iconst (v := (-1)) dX12_readsBehind_173 (by decide) ?_
              obtain ⟨_, h31, hf⟩ := ob hf
              obtain ⟨σ29, v30, eσ29, hf⟩ := cb_el hf
              refine g_callV_v dX12_readsBehind_174 (wX12_waitsFor _ eσ29) (okX12_waitsFor _ (by decide) (by decide)) (ckK_el h31) hc16 t_2322 t_2324 s_X12_waitsFor rfl (Nat.le_trans (cat_le _) (Nat.le_of_ble_eq_true rfl)) rfl ?_
              refine g_goto (tgt := 182) dX12_readsBehind_177 (by decide) ?_
              exact bX12_readsBehind_182 hX1 hX2 hf
          · rw [if_pos c10] at hf
            refine g_aload_n (j := 0) dX12_readsBehind_91 rfl rfl ?_
            refine g_iconst (v := 1) dX12_readsBehind_92 (by decide) ?_
            obtain ⟨_, h34, hf⟩ := ob hf
            obtain ⟨σ32, v33, eσ32, hf⟩ := cb_el hf
            refine g_callV_v dX12_readsBehind_93 (wX12_settles _ eσ32) (okX12_settles _ (by decide) (by decide)) (ckK_el h34) hc16 t_2334 t_2336 s_X12_settles rfl (Nat.le_trans (cat_le _) (Nat.le_of_ble_eq_true rfl)) rfl ?_
            refine g_aload_n (j := 0) dX12_readsBehind_96 rfl rfl ?_
            obtain ⟨v35, ev35, hf⟩ := ob hf
            refine g_getI dX12_readsBehind_97 ev35 t_1997 hin16 hc16 (by decide) rfl ?_
            refine g_if_eq (tgt := 118) dX12_readsBehind_100 (by decide) (fun c36 => ?_) (fun c36 => ?_)
            · rw [if_pos c36] at hf
              refine g_iconst (v := (-1)) dX12_readsBehind_118 (by decide) ?_
              exact g_iret dX12_readsBehind_119 rfl rfl hX2 hX1 hf
            · rw [if_neg c36] at hf
              refine g_aload_n (j := 0) dX12_readsBehind_103 rfl rfl ?_
              obtain ⟨v37, ev37, hf⟩ := ob hf
              refine g_getF dX12_readsBehind_104 ev37 t_1995 hin16 hc16 (by decide) rfl ?_
              refine g_aload_n (j := 0) dX12_readsBehind_107 rfl rfl ?_
              obtain ⟨v38, ev38, hf⟩ := ob hf
              refine g_getI dX12_readsBehind_108 ev38 t_1997 hin16 hc16 (by decide) rfl ?_
              refine g_iconst (v := 1) dX12_readsBehind_111 (by decide) ?_
              refine g_isub dX12_readsBehind_112 ?_
              obtain ⟨v39, ev39, hf⟩ := ob hf
              refine g_iald dX12_readsBehind_113 ev39 ?_
              refine g_iconst (v := (-1)) dX12_readsBehind_114 (by decide) ?_
              refine g_icmp_ne (tgt := 120) dX12_readsBehind_115 (by decide) (fun c40 => ?_) (fun c40 => ?_)
              · rw [if_neg c40] at hf
                refine g_aload_n (j := 0) dX12_readsBehind_120 rfl rfl ?_
                obtain ⟨v41, ev41, hf⟩ := ob hf
                refine g_getF dX12_readsBehind_121 ev41 t_1996 hin16 hc16 (by decide) rfl ?_
                refine g_aload_n (j := 0) dX12_readsBehind_124 rfl rfl ?_
                obtain ⟨v42, ev42, hf⟩ := ob hf
                refine g_getI dX12_readsBehind_125 ev42 t_1997 hin16 hc16 (by decide) rfl ?_
                refine g_iconst (v := 1) dX12_readsBehind_128 (by decide) ?_
                refine g_isub dX12_readsBehind_129 ?_
                obtain ⟨v43, ev43, hf⟩ := nm_el hf
                refine g_topI ev43 ?_
                refine g_dup2 dX12_readsBehind_130 rfl (rv_cat _) ?_
                obtain ⟨v44, ev44, hf⟩ := ob hf
                refine g_iald dX12_readsBehind_131 ev44 ?_
                refine g_iconst (v := 1) dX12_readsBehind_132 (by decide) ?_
                refine g_iadd dX12_readsBehind_133 ?_
                obtain ⟨σ45, eσ45, hf⟩ := ob hf
                refine g_iast dX12_readsBehind_134 eσ45 ?_
                refine g_goto (tgt := 182) dX12_readsBehind_135 (by decide) ?_
                exact bX12_readsBehind_182 hX1 hX2 hf
              · rw [if_pos c40] at hf
                refine g_iconst (v := (-1)) dX12_readsBehind_118 (by decide) ?_
                exact g_iret dX12_readsBehind_119 rfl rfl hX2 hX1 hf
        · rw [if_pos c8] at hf
          refine g_aload_n (j := 0) dX12_readsBehind_61 rfl rfl ?_
          obtain ⟨v46, ev46, hf⟩ := ob hf
          refine g_getI dX12_readsBehind_62 ev46 t_1998 hin16 hc16 (by decide) rfl ?_
          refine g_bipush (v := 12) dX12_readsBehind_65 (by decide) ?_
          refine g_icmp_ne (tgt := 72) dX12_readsBehind_67 (by decide) (fun c47 => ?_) (fun c47 => ?_)
          · rw [if_neg c47] at hf
            refine g_aload_n (j := 0) dX12_readsBehind_72 rfl rfl ?_
            refine g_bipush (v := 6) dX12_readsBehind_73 (by decide) ?_
            refine g_iconst (v := (-1)) dX12_readsBehind_75 (by decide) ?_
            obtain ⟨_, h50, hf⟩ := ob hf
            obtain ⟨σ48, v49, eσ48, hf⟩ := cb_el hf
            refine g_callV_v dX12_readsBehind_76 (wX12_waitsFor _ eσ48) (okX12_waitsFor _ (by decide) (by decide)) (ckK_el h50) hc16 t_2322 t_2324 s_X12_waitsFor rfl (Nat.le_trans (cat_le _) (Nat.le_of_ble_eq_true rfl)) rfl ?_
            refine g_goto (tgt := 182) dX12_readsBehind_79 (by decide) ?_
            exact bX12_readsBehind_182 hX1 hX2 hf
          · rw [if_pos c47] at hf
            refine g_iconst (v := (-1)) dX12_readsBehind_70 (by decide) ?_
            exact g_iret dX12_readsBehind_71 rfl rfl hX2 hX1 hf
      · rw [if_pos c6] at hf
        refine g_aload_n (j := 0) dX12_readsBehind_43 rfl rfl ?_
        obtain ⟨_, h53, hf⟩ := ob hf
        obtain ⟨σ51, v52, eσ51, hf⟩ := cb_el hf
        refine g_callV_i dX12_readsBehind_44 (wX12_closes _ eσ51) (okX12_closes _ (by decide) (by decide)) (ckK_el h53) hc16 t_2330 t_2332 s_X12_closes rfl (Nat.le_trans (cat_le _) (Nat.le_of_ble_eq_true rfl)) rfl ?_
        refine g_if_ne (tgt := 182) dX12_readsBehind_47 (by decide) (fun c54 => ?_) (fun c54 => ?_)
        · rw [if_neg c54] at hf
          exact bX12_readsBehind_182 hX1 hX2 hf
        · rw [if_pos c54] at hf
          refine g_iconst (v := (-1)) dX12_readsBehind_50 (by decide) ?_
          exact g_iret dX12_readsBehind_51 rfl rfl hX2 hX1 hf
    · rw [if_pos c4] at hf
      refine g_aload_n (j := 0) dX12_readsBehind_19 rfl rfl ?_
      refine g_bipush (v := 7) dX12_readsBehind_20 (by decide) ?_
      refine g_iconst (v := 0) dX12_readsBehind_22 (by decide) ?_
      refine g_iconst (v := 0) dX12_readsBehind_23 (by decide) ?_
      refine g_aload_n (j := 0) dX12_readsBehind_24 rfl rfl ?_
      obtain ⟨v55, ev55, hf⟩ := ob hf
      refine g_getI dX12_readsBehind_25 ev55 t_1978 hin16 hc16 (by decide) rfl ?_
      obtain ⟨_, h58, hf⟩ := ob hf
      obtain ⟨σ56, v57, eσ56, hf⟩ := cb_el hf
      refine g_callV_v dX12_readsBehind_28 (wX12_makes _ eσ56) (okX12_makes _ (by decide) (by decide)) (ckK_el h58) hc16 t_2318 t_2320 s_X12_makes rfl (Nat.le_trans (cat_le _) (Nat.le_of_ble_eq_true rfl)) rfl ?_
      refine g_goto (tgt := 182) dX12_readsBehind_31 (by decide) ?_
      exact bX12_readsBehind_182 hX1 hX2 hf
  · rw [if_neg c2] at hf
    refine g_iconst (v := (-1)) dX12_readsBehind_8 (by decide) ?_
    exact g_iret dX12_readsBehind_9 rfl rfl hX2 hX1 hf

theorem okX12_readsBehind (M : Mt) (h1 : 7 + 1 ≤ M.2.2.2.2.1) (h2 : 8 + (2 + 11) + 213 ≤ M.2.2.2.2.2.1) : CallOk M MtX12_readsBehind yX12_readsBehind 0 := ⟨t_2329, h1, h2, ⟨by decide, by decide⟩, by decide +kernel, t_16⟩
abbrev MtX12_readsSum : Mt := (cX12_readsSum, 2, "ExactlySaidModel", (Option.some Jvm.ClassFile.FieldType.boolean), 10, 302, false)
set_option maxRecDepth 100000 in
set_option maxHeartbeats 4000000 in
theorem bX12_readsSum_43 {X : Xt} {σf : St} {r : Int32} (hX1 : X.2.2.1 = σf) (hX2 : X.2.2.2 = .inl (some (.int r))) {k12 : St → Nat → Int32 → Option (St × Int32)} (hk12 : ∀ (σ : St) (x0 : Nat) (x1 : Int32), k12 σ x0 x1 = some (σf, r) → G MtX12_readsSum X σ 12 [(0, rv x0), (1, .int x1)] []) {σ : St} {x0 : Nat} {y0 : Int32} (hf : fX12_readsSum_43 k12 σ x0 y0 = some (σf, r)) : G MtX12_readsSum X σ 43 [(0, rv x0)] [.int y0] := by
  unfold fX12_readsSum_43 at hf
  refine g_istore_n (i := 1) (L' := [(1, .int y0), (0, rv x0)]) dX12_readsSum_43 rfl (Nat.le_of_ble_eq_true rfl) (by simp [rv_cat]) ?_
  refine g_goto (tgt := 12) dX12_readsSum_44 (by decide) ?_
  refine g_sub (L' := [(0, rv x0), (1, .int y0)]) [1, 0] rfl ?_
  exact hk12 _ _ _ hf

set_option maxRecDepth 100000 in
set_option maxHeartbeats 4000000 in
theorem bX12_readsSum_28 {X : Xt} {σf : St} {r : Int32} (hX1 : X.2.2.1 = σf) (hX2 : X.2.2.2 = .inl (some (.int r))) {k12 : St → Nat → Int32 → Option (St × Int32)} (hk12 : ∀ (σ : St) (x0 : Nat) (x1 : Int32), k12 σ x0 x1 = some (σf, r) → G MtX12_readsSum X σ 12 [(0, rv x0), (1, .int x1)] []) {σ : St} {x0 : Nat} {x1 : Int32} (hf : fX12_readsSum_28 k12 σ x0 x1 = some (σf, r)) : G MtX12_readsSum X σ 28 [(0, rv x0), (1, .int x1)] [] := by
  unfold fX12_readsSum_28 at hf
  refine g_iload_n (j := 1) dX12_readsSum_28 rfl rfl ?_
  refine g_if_ne (tgt := 39) dX12_readsSum_29 (by decide) (fun c1 => ?_) (fun c1 => ?_)
  · rw [if_neg c1] at hf
    refine g_aload_n (j := 0) dX12_readsSum_39 rfl rfl ?_
    obtain ⟨_, h4, hf⟩ := ob hf
    obtain ⟨σ2, v3, eσ2, hf⟩ := cb_el hf
    refine g_callV_i dX12_readsSum_40 (wX12_readsBehind _ eσ2) (okX12_readsBehind _ (by decide) (by decide)) (ckK_el h4) hc16 t_2326 t_2328 s_X12_readsBehind rfl (Nat.le_trans (cat_le _) (Nat.le_of_ble_eq_true rfl)) rfl ?_
    refine g_sub (L' := [(0, rv x0)]) [0] rfl ?_
    exact bX12_readsSum_43 hX1 hX2 hk12 hf
  · rw [if_pos c1] at hf
    refine g_aload_n (j := 0) dX12_readsSum_32 rfl rfl ?_
    obtain ⟨_, h7, hf⟩ := ob hf
    obtain ⟨σ5, v6, eσ5, hf⟩ := cb_el hf
    refine g_callV_i dX12_readsSum_33 (wX12_readsOperand _ eσ5) (okX12_readsOperand _ (by decide) (by decide)) (ckK_el h7) hc16 t_2294 t_2296 s_X12_readsOperand rfl (Nat.le_trans (cat_le _) (Nat.le_of_ble_eq_true rfl)) rfl ?_
    refine g_goto (tgt := 43) dX12_readsSum_36 (by decide) ?_
    refine g_sub (L' := [(0, rv x0)]) [0] rfl ?_
    exact bX12_readsSum_43 hX1 hX2 hk12 hf

set_option maxRecDepth 100000 in
set_option maxHeartbeats 4000000 in
theorem bX12_readsSum_47 {X : Xt} {σf : St} {r : Int32} (hX1 : X.2.2.1 = σf) (hX2 : X.2.2.2 = .inl (some (.int r))) {σ : St} {x0 : Nat} {x1 : Int32} (hf : fX12_readsSum_47 σ x0 x1 = some (σf, r)) : G MtX12_readsSum X σ 47 [(0, rv x0), (1, .int x1)] [] := by
  unfold fX12_readsSum_47 at hf
  refine g_iload_n (j := 1) dX12_readsSum_47 rfl rfl ?_
  refine g_iconst (v := (-1)) dX12_readsSum_48 (by decide) ?_
  refine g_icmp_ne (tgt := 54) dX12_readsSum_49 (by decide) (fun c1 => ?_) (fun c1 => ?_)
  · rw [if_neg c1] at hf
    refine g_aload_n (j := 0) dX12_readsSum_54 rfl rfl ?_
    refine g_iconst (v := 1) dX12_readsSum_55 (by decide) ?_
    obtain ⟨_, h4, hf⟩ := ob hf
    obtain ⟨σ2, v3, eσ2, hf⟩ := cb_el hf
    refine g_callV_v dX12_readsSum_56 (wX12_settles _ eσ2) (okX12_settles _ (by decide) (by decide)) (ckK_el h4) hc16 t_2334 t_2336 s_X12_settles rfl (Nat.le_trans (cat_le _) (Nat.le_of_ble_eq_true rfl)) rfl ?_
    refine g_aload_n (j := 0) dX12_readsSum_59 rfl rfl ?_
    obtain ⟨v5, ev5, hf⟩ := ob hf
    refine g_getI dX12_readsSum_60 ev5 t_1997 hin16 hc16 (by decide) rfl ?_
    refine g_if_ne (tgt := 70) dX12_readsSum_63 (by decide) (fun c6 => ?_) (fun c6 => ?_)
    · rw [if_neg c6] at hf
      refine g_iconst (v := 0) dX12_readsSum_70 (by decide) ?_
      exact g_iret dX12_readsSum_71 rfl (by decide) hX2 hX1 hf
    · rw [if_pos c6] at hf
      refine g_iconst (v := 1) dX12_readsSum_66 (by decide) ?_
      refine g_goto (tgt := 71) dX12_readsSum_67 (by decide) ?_
      exact g_iret dX12_readsSum_71 rfl (by decide) hX2 hX1 hf
  · rw [if_pos c1] at hf
    refine g_iconst (v := 0) dX12_readsSum_52 (by decide) ?_
    exact g_iret dX12_readsSum_53 rfl (by decide) hX2 hX1 hf

set_option maxRecDepth 100000 in
set_option maxHeartbeats 4000000 in
theorem bX12_readsSum_12 {X : Xt} {σf : St} {r : Int32} (hX1 : X.2.2.1 = σf) (hX2 : X.2.2.2 = .inl (some (.int r))) : ∀ (n : Nat) (σ : St) (x0 : Nat) (x1 : Int32), fX12_readsSum_12 n σ x0 x1 = some (σf, r) → G MtX12_readsSum X σ 12 [(0, rv x0), (1, .int x1)] [] := by
  intro n
  induction n with
  | zero => intro σ x0 x1 hf; cases hf
  | succ n ih =>
    intro σ x0 x1 hf
    rw [fX12_readsSum_12] at hf
    refine g_iload_n (j := 1) dX12_readsSum_12 rfl rfl ?_
    refine g_iconst (v := (-1)) dX12_readsSum_13 (by decide) ?_
    refine g_icmp_eq (tgt := 47) dX12_readsSum_14 (by decide) (fun c1 => ?_) (fun c1 => ?_)
    · rw [if_pos c1] at hf
      exact bX12_readsSum_47 hX1 hX2 hf
    · rw [if_neg c1] at hf
      refine g_iload_n (j := 1) dX12_readsSum_17 rfl rfl ?_
      refine g_if_eq (tgt := 28) dX12_readsSum_18 (by decide) (fun c2 => ?_) (fun c2 => ?_)
      · rw [if_pos c2] at hf
        exact bX12_readsSum_28 hX1 hX2 (fun σ x0 x1 hf => ih σ x0 x1 hf) hf
      · rw [if_neg c2] at hf
        refine g_aload_n (j := 0) dX12_readsSum_21 rfl rfl ?_
        obtain ⟨v3, ev3, hf⟩ := ob hf
        refine g_getI dX12_readsSum_22 ev3 t_1977 hin16 hc16 (by decide) rfl ?_
        refine g_if_eq (tgt := 47) dX12_readsSum_25 (by decide) (fun c4 => ?_) (fun c4 => ?_)
        · rw [if_pos c4] at hf
          exact bX12_readsSum_47 hX1 hX2 hf
        · rw [if_neg c4] at hf
          exact bX12_readsSum_28 hX1 hX2 (fun σ x0 x1 hf => ih σ x0 x1 hf) hf

set_option maxRecDepth 100000 in
set_option maxHeartbeats 4000000 in
theorem wX12_readsSum (l : Launch) {σ σf : St} {x0 : Nat} {r : Int32} (hf : fX12_readsSum σ x0 = some (σf, r)) : Con MtX12_readsSum yX12_readsSum l σ [rv x0] σf (some (.int r)) := by
  refine Con.of (by decide +kernel) rfl (fun h => absurd (show false = true from h) (by decide)) (by simp only [sl_n, sl_r, sl_i, sl_l]; exact Nat.le_of_ble_eq_true rfl) ?_
  rw [show lv_args 0 [rv x0] = [(0, rv x0)] by simp only [la_n, la_r, la_i, la_l] <;> rfl]
  have hX1 : ((l, σ, σf, .inl (some (.int r))) : Xt).2.2.1 = σf := rfl
  have hX2 : ((l, σ, σf, .inl (some (.int r))) : Xt).2.2.2 = .inl (some (.int r)) := rfl
  unfold fX12_readsSum at hf
  refine g_aload_n (j := 0) dX12_readsSum_0 rfl rfl ?_
  refine g_iconst (v := 0) dX12_readsSum_1 (by decide) ?_
  obtain ⟨σ1, eσ1, hf⟩ := ob hf
  refine g_putI dX12_readsSum_2 eσ1 (Or.inl t_1997) hin16 hc16 (by decide) hty16 hnm16 (Or.inl rfl) rfl rfl rfl ?_
  refine g_aload_n (j := 0) dX12_readsSum_5 rfl rfl ?_
  refine g_iconst (v := 0) dX12_readsSum_6 (by decide) ?_
  obtain ⟨σ2, eσ2, hf⟩ := ob hf
  refine g_putI dX12_readsSum_7 eσ2 (Or.inl t_1998) hin16 hc16 (by decide) hty16 hnm16 (Or.inl rfl) rfl rfl rfl ?_
  refine g_iconst (v := 0) dX12_readsSum_10 (by decide) ?_
  refine g_istore_n (i := 1) (L' := [(1, .int 0), (0, rv x0)]) dX12_readsSum_11 rfl (Nat.le_of_ble_eq_true rfl) (by simp [rv_cat]) ?_
  refine g_sub (L' := [(0, rv x0), (1, .int 0)]) [1, 0] rfl ?_
  exact bX12_readsSum_12 hX1 hX2 FU _ _ _ hf

theorem okX12_readsSum (M : Mt) (h1 : 10 + 1 ≤ M.2.2.2.2.1) (h2 : 8 + (2 + 11) + 302 ≤ M.2.2.2.2.2.1) : CallOk M MtX12_readsSum yX12_readsSum 0 := ⟨t_2293, h1, h2, ⟨by decide, by decide⟩, by decide +kernel, t_16⟩
abbrev MtX12_readsLine : Mt := (cX12_readsLine, 1, "ExactlySaidModel", (Option.some Jvm.ClassFile.FieldType.boolean), 11, 323, false)
set_option maxRecDepth 100000 in
set_option maxHeartbeats 4000000 in
theorem bX12_readsLine_33 {X : Xt} {σf : St} {r : Int32} (hX1 : X.2.2.1 = σf) (hX2 : X.2.2.2 = .inl (some (.int r))) {σ : St} {x0 : Nat} (hf : fX12_readsLine_33 σ x0 = some (σf, r)) : G MtX12_readsLine X σ 33 [(0, rv x0)] [] := by
  unfold fX12_readsLine_33 at hf
  refine g_aload_n (j := 0) dX12_readsLine_33 rfl rfl ?_
  obtain ⟨_, h3, hf⟩ := ob hf
  obtain ⟨σ1, v2, eσ1, hf⟩ := cb_el hf
  refine g_callV_i dX12_readsLine_34 (wX12_readsSum _ eσ1) (okX12_readsSum _ (by decide) (by decide)) (ckK_el h3) hc16 t_2290 t_2292 s_X12_readsSum rfl (Nat.le_trans (cat_le _) (Nat.le_of_ble_eq_true rfl)) rfl ?_
  obtain ⟨_, h4, hf⟩ := ob hf
  exact g_iret dX12_readsLine_37 rfl (ckZ_el h4) hX2 hX1 hf

set_option maxRecDepth 100000 in
set_option maxHeartbeats 4000000 in
theorem wX12_readsLine (l : Launch) {σ σf : St} {x0 : Nat} {r : Int32} (hf : fX12_readsLine σ x0 = some (σf, r)) : Con MtX12_readsLine yX12_readsLine l σ [rv x0] σf (some (.int r)) := by
  refine Con.of (by decide +kernel) rfl (fun h => absurd (show false = true from h) (by decide)) (by simp only [sl_n, sl_r, sl_i, sl_l]; exact Nat.le_of_ble_eq_true rfl) ?_
  rw [show lv_args 0 [rv x0] = [(0, rv x0)] by simp only [la_n, la_r, la_i, la_l] <;> rfl]
  have hX1 : ((l, σ, σf, .inl (some (.int r))) : Xt).2.2.1 = σf := rfl
  have hX2 : ((l, σ, σf, .inl (some (.int r))) : Xt).2.2.2 = .inl (some (.int r)) := rfl
  unfold fX12_readsLine at hf
  refine g_aload_n (j := 0) dX12_readsLine_0 rfl rfl ?_
  obtain ⟨_, h3, hf⟩ := ob hf
  obtain ⟨σ1, v2, eσ1, hf⟩ := cb_el hf
  refine g_callV_i dX12_readsLine_1 (wX12_isTelling _ eσ1) (okX12_isTelling _ (by decide) (by decide)) (ckK_el h3) hc16 t_2245 t_2247 s_X12_isTelling rfl (Nat.le_trans (cat_le _) (Nat.le_of_ble_eq_true rfl)) rfl ?_
  refine g_if_ne (tgt := 24) dX12_readsLine_4 (by decide) (fun c4 => ?_) (fun c4 => ?_)
  · rw [if_neg c4] at hf
    refine g_aload_n (j := 0) dX12_readsLine_24 rfl rfl ?_
    obtain ⟨_, h7, hf⟩ := ob hf
    obtain ⟨σ5, v6, eσ5, hf⟩ := cb_el hf
    refine g_callV_i dX12_readsLine_25 (wX12_readsHead _ eσ5) (okX12_readsHead _ (by decide) (by decide)) (ckK_el h7) hc16 t_2286 t_2288 s_X12_readsHead rfl (Nat.le_trans (cat_le _) (Nat.le_of_ble_eq_true rfl)) rfl ?_
    refine g_if_ne (tgt := 33) dX12_readsLine_28 (by decide) (fun c8 => ?_) (fun c8 => ?_)
    · rw [if_neg c8] at hf
      exact bX12_readsLine_33 hX1 hX2 hf
    · rw [if_pos c8] at hf
      refine g_iconst (v := 0) dX12_readsLine_31 (by decide) ?_
      exact g_iret dX12_readsLine_32 rfl (by decide) hX2 hX1 hf
  · rw [if_pos c4] at hf
    refine g_aload_n (j := 0) dX12_readsLine_7 rfl rfl ?_
    refine g_iconst (v := 0) dX12_readsLine_8 (by decide) ?_
    obtain ⟨σ9, eσ9, hf⟩ := ob hf
    refine g_putI dX12_readsLine_9 eσ9 (Or.inl t_1999) hin16 hc16 (by decide) hty16 hnm16 (Or.inl rfl) rfl rfl rfl ?_
    refine g_aload_n (j := 0) dX12_readsLine_12 rfl rfl ?_
    refine g_iconst (v := 0) dX12_readsLine_13 (by decide) ?_
    obtain ⟨σ10, eσ10, hf⟩ := ob hf
    refine g_putI dX12_readsLine_14 eσ10 (Or.inl t_1980) hin16 hc16 (by decide) hty16 hnm16 (Or.inl rfl) rfl rfl rfl ?_
    refine g_aload_n (j := 0) dX12_readsLine_17 rfl rfl ?_
    obtain ⟨_, h13, hf⟩ := ob hf
    obtain ⟨σ11, v12, eσ11, hf⟩ := cb_el hf
    refine g_callV_v dX12_readsLine_18 (wX12_reads _ eσ11) (okX12_reads _ (by decide) (by decide)) (ckK_el h13) hc16 t_2249 t_2251 s_X12_reads rfl (Nat.le_trans (cat_le _) (Nat.le_of_ble_eq_true rfl)) rfl ?_
    refine g_goto (tgt := 33) dX12_readsLine_21 (by decide) ?_
    exact bX12_readsLine_33 hX1 hX2 hf

theorem okX12_readsLine (M : Mt) (h1 : 11 + 1 ≤ M.2.2.2.2.1) (h2 : 8 + (1 + 11) + 323 ≤ M.2.2.2.2.2.1) : CallOk M MtX12_readsLine yX12_readsLine 0 := ⟨t_2244, h1, h2, ⟨by decide, by decide⟩, by decide +kernel, t_16⟩
abbrev MtX12_thing : Mt := (cX12_thing, 5, "ExactlySaidModel", (Option.some Jvm.ClassFile.FieldType.int), 1, 84, false)
set_option maxRecDepth 100000 in
set_option maxHeartbeats 4000000 in
theorem bX12_thing_32 {X : Xt} {σf : St} {r : Int32} (hX1 : X.2.2.1 = σf) (hX2 : X.2.2.2 = .inl (some (.int r))) {k14 : St → Nat → Int32 → Int32 → Int32 → Int32 → Option (St × Int32)} (hk14 : ∀ (σ : St) (x0 : Nat) (x1 : Int32) (x2 : Int32) (x3 : Int32) (x4 : Int32), k14 σ x0 x1 x2 x3 x4 = some (σf, r) → G MtX12_thing X σ 14 [(0, rv x0), (1, .int x1), (2, .int x2), (3, .int x3), (4, .int x4)] []) {σ : St} {x0 : Nat} {x1 : Int32} {x2 : Int32} {x3 : Int32} {x4 : Int32} {y0 : Int32} {y1 : Int32} {y2 : Int32} (hf : fX12_thing_32 k14 σ x0 x1 x2 x3 x4 y0 y1 y2 = some (σf, r)) : G MtX12_thing X σ 32 [(0, rv x0), (1, .int x1), (2, .int x2), (3, .int x3), (4, .int x4)] [.int y2, .int y1, .int y0] := by
  unfold fX12_thing_32 at hf
  refine g_iadd dX12_thing_32 ?_
  refine g_icmp_ge (tgt := 56) dX12_thing_33 (by decide) (fun c1 => ?_) (fun c1 => ?_)
  · rw [if_pos c1] at hf
    refine g_iconst (v := (-1)) dX12_thing_56 (by decide) ?_
    exact g_iret dX12_thing_57 rfl rfl hX2 hX1 hf
  · rw [if_neg c1] at hf
    refine g_aload_n (j := 0) dX12_thing_36 rfl rfl ?_
    obtain ⟨v2, ev2, hf⟩ := ob hf
    refine g_getF dX12_thing_37 ev2 t_2004 hin16 hc16 (by decide) rfl ?_
    refine g_iload (j := 4) dX12_thing_40 rfl ?_
    obtain ⟨v3, ev3, hf⟩ := ob hf
    refine g_iald dX12_thing_42 ev3 ?_
    refine g_iload_n (j := 1) dX12_thing_43 rfl rfl ?_
    refine g_icmp_ne (tgt := 50) dX12_thing_44 (by decide) (fun c4 => ?_) (fun c4 => ?_)
    · rw [if_neg c4] at hf
      obtain ⟨v5, ev5, hf⟩ := nm_el hf
      refine g_iinc (L' := [(4, .int v5), (0, rv x0), (1, .int x1), (2, .int x2), (3, .int x3)]) (j := 4) (v := v5) dX12_thing_50 rfl (by rw [ev5]; rfl) (Nat.le_of_ble_eq_true rfl) rfl ?_
      refine g_goto (tgt := 14) dX12_thing_53 (by decide) ?_
      refine g_sub (L' := [(0, rv x0), (1, .int x1), (2, .int x2), (3, .int x3), (4, .int v5)]) [1, 2, 3, 4, 0] rfl ?_
      exact hk14 _ _ _ _ _ _ hf
    · rw [if_pos c4] at hf
      refine g_iload (j := 4) dX12_thing_47 rfl ?_
      exact g_iret dX12_thing_49 rfl rfl hX2 hX1 hf

set_option maxRecDepth 100000 in
set_option maxHeartbeats 4000000 in
theorem bX12_thing_14 {X : Xt} {σf : St} {r : Int32} (hX1 : X.2.2.1 = σf) (hX2 : X.2.2.2 = .inl (some (.int r))) : ∀ (n : Nat) (σ : St) (x0 : Nat) (x1 : Int32) (x2 : Int32) (x3 : Int32) (x4 : Int32), fX12_thing_14 n σ x0 x1 x2 x3 x4 = some (σf, r) → G MtX12_thing X σ 14 [(0, rv x0), (1, .int x1), (2, .int x2), (3, .int x3), (4, .int x4)] [] := by
  intro n
  induction n with
  | zero => intro σ x0 x1 x2 x3 x4 hf; cases hf
  | succ n ih =>
    intro σ x0 x1 x2 x3 x4 hf
    rw [fX12_thing_14] at hf
    refine g_iload (j := 4) dX12_thing_14 rfl ?_
    refine g_iload_n (j := 3) dX12_thing_16 rfl rfl ?_
    refine g_iload_n (j := 2) dX12_thing_17 rfl rfl ?_
    refine g_if_eq (tgt := 28) dX12_thing_18 (by decide) (fun c1 => ?_) (fun c1 => ?_)
    · rw [if_pos c1] at hf
      refine g_aload_n (j := 0) dX12_thing_28 rfl rfl ?_
      obtain ⟨v2, ev2, hf⟩ := ob hf
      refine g_getI dX12_thing_29 ev2 t_2007 hin16 hc16 (by decide) rfl ?_
      exact bX12_thing_32 hX1 hX2 (fun σ x0 x1 x2 x3 x4 hf => ih σ x0 x1 x2 x3 x4 hf) hf
    · rw [if_neg c1] at hf
      refine g_aload_n (j := 0) dX12_thing_21 rfl rfl ?_
      obtain ⟨v3, ev3, hf⟩ := ob hf
      refine g_getI dX12_thing_22 ev3 t_2008 hin16 hc16 (by decide) rfl ?_
      refine g_goto (tgt := 32) dX12_thing_25 (by decide) ?_
      exact bX12_thing_32 hX1 hX2 (fun σ x0 x1 x2 x3 x4 hf => ih σ x0 x1 x2 x3 x4 hf) hf

set_option maxRecDepth 100000 in
set_option maxHeartbeats 4000000 in
theorem bX12_thing_10 {X : Xt} {σf : St} {r : Int32} (hX1 : X.2.2.1 = σf) (hX2 : X.2.2.2 = .inl (some (.int r))) {σ : St} {x0 : Nat} {x1 : Int32} {x2 : Int32} {y0 : Int32} (hf : fX12_thing_10 σ x0 x1 x2 y0 = some (σf, r)) : G MtX12_thing X σ 10 [(0, rv x0), (1, .int x1), (2, .int x2)] [.int y0] := by
  unfold fX12_thing_10 at hf
  refine g_istore_n (i := 3) (L' := [(3, .int y0), (0, rv x0), (1, .int x1), (2, .int x2)]) dX12_thing_10 rfl (Nat.le_of_ble_eq_true rfl) rfl ?_
  refine g_iload_n (j := 0) dX12_thing_11 rfl rfl ?_
  refine g_istore (i := 4) (L' := [(4, .int y0), (3, .int y0), (0, rv x0), (1, .int x1), (2, .int x2)]) dX12_thing_12 (Nat.le_of_ble_eq_true rfl) rfl ?_
  refine g_sub (L' := [(0, rv x0), (1, .int x1), (2, .int x2), (3, .int y0), (4, .int y0)]) [2, 3, 4, 1, 0] rfl ?_
  exact bX12_thing_14 hX1 hX2 FU _ _ _ _ _ _ hf

set_option maxRecDepth 100000 in
set_option maxHeartbeats 4000000 in
theorem wX12_thing (l : Launch) {σ σf : St} {x0 : Nat} {x1 : Int32} {x2 : Int32} {r : Int32} (hf : fX12_thing σ x0 x1 x2 = some (σf, r)) : Con MtX12_thing yX12_thing l σ [rv x0, .int x1, .int x2] σf (some (.int r)) := by
  refine Con.of (by decide +kernel) rfl (fun h => absurd (show false = true from h) (by decide)) (by simp only [sl_n, sl_r, sl_i, sl_l]; exact Nat.le_of_ble_eq_true rfl) ?_
  rw [show lv_args 0 [rv x0, .int x1, .int x2] = [(0, rv x0), (1, .int x1), (2, .int x2)] by simp only [la_n, la_r, la_i, la_l] <;> rfl]
  have hX1 : ((l, σ, σf, .inl (some (.int r))) : Xt).2.2.1 = σf := rfl
  have hX2 : ((l, σ, σf, .inl (some (.int r))) : Xt).2.2.2 = .inl (some (.int r)) := rfl
  unfold fX12_thing at hf
  refine g_iload_n (j := 2) dX12_thing_0 rfl rfl ?_
  refine g_if_eq (tgt := 9) dX12_thing_1 (by decide) (fun c1 => ?_) (fun c1 => ?_)
  · rw [if_pos c1] at hf
    refine g_iconst (v := 0) dX12_thing_9 (by decide) ?_
    exact bX12_thing_10 hX1 hX2 hf
  · rw [if_neg c1] at hf
    refine g_bipush (v := 20) dX12_thing_4 (by decide) ?_
    refine g_goto (tgt := 10) dX12_thing_6 (by decide) ?_
    exact bX12_thing_10 hX1 hX2 hf

theorem okX12_thing (M : Mt) (h1 : 1 + 1 ≤ M.2.2.2.2.1) (h2 : 8 + (5 + 11) + 84 ≤ M.2.2.2.2.2.1) : CallOk M MtX12_thing yX12_thing 2 := ⟨t_2360, h1, h2, ⟨by decide, by decide⟩, by decide +kernel, t_16⟩
abbrev MtX12_known : Mt := (cX12_known, 1, "ExactlySaidModel", (Option.some Jvm.ClassFile.FieldType.int), 1, 84, false)
set_option maxRecDepth 100000 in
set_option maxHeartbeats 4000000 in
theorem wX12_known (l : Launch) {σ σf : St} {x0 : Int32} {r : Int32} (hf : fX12_known σ x0 = some (σf, r)) : Con MtX12_known yX12_known l σ [.int x0] σf (some (.int r)) := by
  refine Con.of (by decide +kernel) rfl (fun h => absurd (show false = true from h) (by decide)) (by simp only [sl_n, sl_r, sl_i, sl_l]; exact Nat.le_of_ble_eq_true rfl) ?_
  rw [show lv_args 0 [.int x0] = [(0, .int x0)] by simp only [la_n, la_r, la_i, la_l] <;> rfl]
  have hX1 : ((l, σ, σf, .inl (some (.int r))) : Xt).2.2.1 = σf := rfl
  have hX2 : ((l, σ, σf, .inl (some (.int r))) : Xt).2.2.2 = .inl (some (.int r)) := rfl
  unfold fX12_known at hf
  refine g_iload_n (j := 0) dX12_known_0 rfl rfl ?_
  by_cases c1 : x0 = 802
  · rw [if_pos c1] at hf
    refine g_lsw (off := 114) (tgt := 115) dX12_known_1 (by decide) (by rw [c1] <;> rfl) (by decide) ?_
    refine g_bipush (v := 15) dX12_known_115 (by decide) ?_
    exact g_iret dX12_known_117 rfl rfl hX2 hX1 hf
  · rw [if_neg c1] at hf
    by_cases c2 : x0 = 3065
    · rw [if_pos c2] at hf
      refine g_lsw (off := 123) (tgt := 124) dX12_known_1 (by decide) (by rw [c2] <;> rfl) (by decide) ?_
      refine g_bipush (v := 18) dX12_known_124 (by decide) ?_
      exact g_iret dX12_known_126 rfl rfl hX2 hX1 hf
    · rw [if_neg c2] at hf
      by_cases c3 : x0 = 5188
      · rw [if_pos c3] at hf
        refine g_lsw (off := 99) (tgt := 100) dX12_known_1 (by decide) (by rw [c3] <;> rfl) (by decide) ?_
        refine g_bipush (v := 10) dX12_known_100 (by decide) ?_
        exact g_iret dX12_known_102 rfl rfl hX2 hX1 hf
      · rw [if_neg c3] at hf
        by_cases c4 : x0 = 8842
        · rw [if_pos c4] at hf
          refine g_lsw (off := 102) (tgt := 103) dX12_known_1 (by decide) (by rw [c4] <;> rfl) (by decide) ?_
          refine g_bipush (v := 11) dX12_known_103 (by decide) ?_
          exact g_iret dX12_known_105 rfl rfl hX2 hX1 hf
        · rw [if_neg c4] at hf
          by_cases c5 : x0 = 9528
          · rw [if_pos c5] at hf
            refine g_lsw (off := 129) (tgt := 130) dX12_known_1 (by decide) (by rw [c5] <;> rfl) (by decide) ?_
            refine g_bipush (v := 20) dX12_known_130 (by decide) ?_
            exact g_iret dX12_known_132 rfl rfl hX2 hX1 hf
          · rw [if_neg c5] at hf
            by_cases c6 : x0 = 9616
            · rw [if_pos c6] at hf
              refine g_lsw (off := 117) (tgt := 118) dX12_known_1 (by decide) (by rw [c6] <;> rfl) (by decide) ?_
              refine g_bipush (v := 16) dX12_known_118 (by decide) ?_
              exact g_iret dX12_known_120 rfl rfl hX2 hX1 hf
            · rw [if_neg c6] at hf
              by_cases c7 : x0 = 9734
              · rw [if_pos c7] at hf
                refine g_lsw (off := 126) (tgt := 127) dX12_known_1 (by decide) (by rw [c7] <;> rfl) (by decide) ?_
                refine g_bipush (v := 19) dX12_known_127 (by decide) ?_
                exact g_iret dX12_known_129 rfl rfl hX2 hX1 hf
              · rw [if_neg c7] at hf
                by_cases c8 : x0 = 10786
                · rw [if_pos c8] at hf
                  refine g_lsw (off := 120) (tgt := 121) dX12_known_1 (by decide) (by rw [c8] <;> rfl) (by decide) ?_
                  refine g_bipush (v := 17) dX12_known_121 (by decide) ?_
                  exact g_iret dX12_known_123 rfl rfl hX2 hX1 hf
                · rw [if_neg c8] at hf
                  by_cases c9 : x0 = 62949
                  · rw [if_pos c9] at hf
                    refine g_lsw (off := 108) (tgt := 109) dX12_known_1 (by decide) (by rw [c9] <;> rfl) (by decide) ?_
                    refine g_bipush (v := 13) dX12_known_109 (by decide) ?_
                    exact g_iret dX12_known_111 rfl rfl hX2 hX1 hf
                  · rw [if_neg c9] at hf
                    by_cases c10 : x0 = 279252
                    · rw [if_pos c10] at hf
                      refine g_lsw (off := 111) (tgt := 112) dX12_known_1 (by decide) (by rw [c10] <;> rfl) (by decide) ?_
                      refine g_bipush (v := 14) dX12_known_112 (by decide) ?_
                      exact g_iret dX12_known_114 rfl rfl hX2 hX1 hf
                    · rw [if_neg c10] at hf
                      by_cases c11 : x0 = 3436200
                      · rw [if_pos c11] at hf
                        refine g_lsw (off := 105) (tgt := 106) dX12_known_1 (by decide) (by rw [c11] <;> rfl) (by decide) ?_
                        refine g_bipush (v := 12) dX12_known_106 (by decide) ?_
                        exact g_iret dX12_known_108 rfl rfl hX2 hX1 hf
                      · rw [if_neg c11] at hf
                        refine g_lsw (off := 132) (tgt := 133) dX12_known_1 (by decide) ((lv_osw c1 rfl).trans ((lv_osw c2 rfl).trans ((lv_osw c3 rfl).trans ((lv_osw c4 rfl).trans ((lv_osw c5 rfl).trans ((lv_osw c6 rfl).trans ((lv_osw c7 rfl).trans ((lv_osw c8 rfl).trans ((lv_osw c9 rfl).trans ((lv_osw c10 rfl).trans ((lv_osw c11 rfl).trans rfl))))))))))) (by decide) ?_
                        refine g_iconst (v := 0) dX12_known_133 (by decide) ?_
                        exact g_iret dX12_known_134 rfl rfl hX2 hX1 hf

theorem okX12_known (M : Mt) (h1 : 1 + 1 ≤ M.2.2.2.2.1) (h2 : 8 + (1 + 11) + 84 ≤ M.2.2.2.2.2.1) : CallOk M MtX12_known yX12_known 1 := ⟨t_2367, h1, h2, ⟨by decide, by decide⟩, by decide +kernel, t_16⟩
abbrev MtX12_hasTwo : Mt := (cX12_hasTwo, 1, "ExactlySaidModel", (Option.some Jvm.ClassFile.FieldType.boolean), 1, 84, false)
set_option maxRecDepth 100000 in
set_option maxHeartbeats 4000000 in
theorem bX12_hasTwo_36 {X : Xt} {σf : St} {r : Int32} (hX1 : X.2.2.1 = σf) (hX2 : X.2.2.2 = .inl (some (.int r))) {σ : St} (hf : fX12_hasTwo_36 σ  = some (σf, r)) : G MtX12_hasTwo X σ 36 [] [] := by
  unfold fX12_hasTwo_36 at hf
  refine g_iconst (v := 1) dX12_hasTwo_36 (by decide) ?_
  refine g_goto (tgt := 41) dX12_hasTwo_37 (by decide) ?_
  exact g_iret dX12_hasTwo_41 rfl (by decide) hX2 hX1 hf

set_option maxRecDepth 100000 in
set_option maxHeartbeats 4000000 in
theorem wX12_hasTwo (l : Launch) {σ σf : St} {x0 : Int32} {r : Int32} (hf : fX12_hasTwo σ x0 = some (σf, r)) : Con MtX12_hasTwo yX12_hasTwo l σ [.int x0] σf (some (.int r)) := by
  refine Con.of (by decide +kernel) rfl (fun h => absurd (show false = true from h) (by decide)) (by simp only [sl_n, sl_r, sl_i, sl_l]; exact Nat.le_of_ble_eq_true rfl) ?_
  rw [show lv_args 0 [.int x0] = [(0, .int x0)] by simp only [la_n, la_r, la_i, la_l] <;> rfl]
  have hX1 : ((l, σ, σf, .inl (some (.int r))) : Xt).2.2.1 = σf := rfl
  have hX2 : ((l, σ, σf, .inl (some (.int r))) : Xt).2.2.2 = .inl (some (.int r)) := rfl
  unfold fX12_hasTwo at hf
  refine g_iload_n (j := 0) dX12_hasTwo_0 rfl rfl ?_
  refine g_bipush (v := 7) dX12_hasTwo_1 (by decide) ?_
  refine g_icmp_lt (tgt := 36) dX12_hasTwo_3 (by decide) (fun c1 => ?_) (fun c1 => ?_)
  · rw [if_pos c1] at hf
    refine g_sub (L' := []) [] rfl ?_
    exact bX12_hasTwo_36 hX1 hX2 hf
  · rw [if_neg c1] at hf
    refine g_iload_n (j := 0) dX12_hasTwo_6 rfl rfl ?_
    refine g_bipush (v := 10) dX12_hasTwo_7 (by decide) ?_
    refine g_icmp_eq (tgt := 36) dX12_hasTwo_9 (by decide) (fun c2 => ?_) (fun c2 => ?_)
    · rw [if_pos c2] at hf
      refine g_sub (L' := []) [] rfl ?_
      exact bX12_hasTwo_36 hX1 hX2 hf
    · rw [if_neg c2] at hf
      refine g_iload_n (j := 0) dX12_hasTwo_12 rfl rfl ?_
      refine g_bipush (v := 11) dX12_hasTwo_13 (by decide) ?_
      refine g_icmp_eq (tgt := 36) dX12_hasTwo_15 (by decide) (fun c3 => ?_) (fun c3 => ?_)
      · rw [if_pos c3] at hf
        refine g_sub (L' := []) [] rfl ?_
        exact bX12_hasTwo_36 hX1 hX2 hf
      · rw [if_neg c3] at hf
        refine g_iload_n (j := 0) dX12_hasTwo_18 rfl rfl ?_
        refine g_bipush (v := 16) dX12_hasTwo_19 (by decide) ?_
        refine g_icmp_eq (tgt := 36) dX12_hasTwo_21 (by decide) (fun c4 => ?_) (fun c4 => ?_)
        · rw [if_pos c4] at hf
          refine g_sub (L' := []) [] rfl ?_
          exact bX12_hasTwo_36 hX1 hX2 hf
        · rw [if_neg c4] at hf
          refine g_iload_n (j := 0) dX12_hasTwo_24 rfl rfl ?_
          refine g_bipush (v := 19) dX12_hasTwo_25 (by decide) ?_
          refine g_icmp_eq (tgt := 36) dX12_hasTwo_27 (by decide) (fun c5 => ?_) (fun c5 => ?_)
          · rw [if_pos c5] at hf
            refine g_sub (L' := []) [] rfl ?_
            exact bX12_hasTwo_36 hX1 hX2 hf
          · rw [if_neg c5] at hf
            refine g_iload_n (j := 0) dX12_hasTwo_30 rfl rfl ?_
            refine g_bipush (v := 20) dX12_hasTwo_31 (by decide) ?_
            refine g_icmp_ne (tgt := 40) dX12_hasTwo_33 (by decide) (fun c6 => ?_) (fun c6 => ?_)
            · rw [if_neg c6] at hf
              refine g_iconst (v := 0) dX12_hasTwo_40 (by decide) ?_
              exact g_iret dX12_hasTwo_41 rfl (by decide) hX2 hX1 hf
            · rw [if_pos c6] at hf
              refine g_sub (L' := []) [] rfl ?_
              exact bX12_hasTwo_36 hX1 hX2 hf

theorem okX12_hasTwo (M : Mt) (h1 : 1 + 1 ≤ M.2.2.2.2.1) (h2 : 8 + (1 + 11) + 84 ≤ M.2.2.2.2.2.1) : CallOk M MtX12_hasTwo yX12_hasTwo 1 := ⟨t_2370, h1, h2, ⟨by decide, by decide⟩, by decide +kernel, t_16⟩
abbrev MtX12_valuesOf : Mt := (cX12_valuesOf, 3, "ExactlySaidModel", (Option.some Jvm.ClassFile.FieldType.int), 2, 108, false)
set_option maxRecDepth 100000 in
set_option maxHeartbeats 4000000 in
theorem wX12_valuesOf (l : Launch) {σ σf : St} {x0 : Nat} {x1 : Int32} {r : Int32} (hf : fX12_valuesOf σ x0 x1 = some (σf, r)) : Con MtX12_valuesOf yX12_valuesOf l σ [rv x0, .int x1] σf (some (.int r)) := by
  refine Con.of (by decide +kernel) rfl (fun h => absurd (show false = true from h) (by decide)) (by simp only [sl_n, sl_r, sl_i, sl_l]; exact Nat.le_of_ble_eq_true rfl) ?_
  rw [show lv_args 0 [rv x0, .int x1] = [(0, rv x0), (1, .int x1)] by simp only [la_n, la_r, la_i, la_l] <;> rfl]
  have hX1 : ((l, σ, σf, .inl (some (.int r))) : Xt).2.2.1 = σf := rfl
  have hX2 : ((l, σ, σf, .inl (some (.int r))) : Xt).2.2.2 = .inl (some (.int r)) := rfl
  unfold fX12_valuesOf at hf
  refine g_iload_n (j := 1) dX12_valuesOf_0 rfl rfl ?_
  obtain ⟨σ1, v2, eσ1, hf⟩ := cb_el hf
  refine g_callS_i dX12_valuesOf_1 (wX12_known _ eσ1) (okX12_known _ (by decide) (by decide)) t_2365 t_2366 rfl (Nat.le_trans (cat_le _) (Nat.le_of_ble_eq_true rfl)) rfl ?_
  refine g_if_le (tgt := 23) dX12_valuesOf_4 (by decide) (fun c3 => ?_) (fun c3 => ?_)
  · rw [if_pos c3] at hf
    refine g_aload_n (j := 0) dX12_valuesOf_23 rfl rfl ?_
    refine g_iload_n (j := 1) dX12_valuesOf_24 rfl rfl ?_
    refine g_iconst (v := 1) dX12_valuesOf_25 (by decide) ?_
    obtain ⟨_, h6, hf⟩ := ob hf
    obtain ⟨σ4, v5, eσ4, hf⟩ := cb_el hf
    refine g_callV_i dX12_valuesOf_26 (wX12_thing _ eσ4) (okX12_thing _ (by decide) (by decide)) (ckK_el h6) hc16 t_2357 t_2359 s_X12_thing rfl (Nat.le_trans (cat_le _) (Nat.le_of_ble_eq_true rfl)) rfl ?_
    refine g_istore_n (i := 2) (L' := [(2, .int v5), (0, rv x0), (1, .int x1)]) dX12_valuesOf_29 rfl (Nat.le_of_ble_eq_true rfl) rfl ?_
    refine g_iload_n (j := 0) dX12_valuesOf_30 rfl rfl ?_
    refine g_iconst (v := (-1)) dX12_valuesOf_31 (by decide) ?_
    refine g_icmp_ne (tgt := 39) dX12_valuesOf_32 (by decide) (fun c7 => ?_) (fun c7 => ?_)
    · rw [if_neg c7] at hf
      refine g_aload_n (j := 1) dX12_valuesOf_39 rfl rfl ?_
      obtain ⟨v8, ev8, hf⟩ := ob hf
      refine g_getF dX12_valuesOf_40 ev8 t_1991 hin16 hc16 (by decide) rfl ?_
      refine g_aload_n (j := 1) dX12_valuesOf_43 rfl rfl ?_
      obtain ⟨v9, ev9, hf⟩ := ob hf
      refine g_getF dX12_valuesOf_44 ev9 t_2005 hin16 hc16 (by decide) rfl ?_
      refine g_iload_n (j := 0) dX12_valuesOf_47 rfl rfl ?_
      obtain ⟨v10, ev10, hf⟩ := ob hf
      refine g_iald dX12_valuesOf_48 ev10 ?_
      obtain ⟨v11, ev11, hf⟩ := ob hf
      refine g_iald dX12_valuesOf_49 ev11 ?_
      exact g_iret dX12_valuesOf_50 rfl rfl hX2 hX1 hf
    · rw [if_pos c7] at hf
      refine g_iconst (v := (-1)) dX12_valuesOf_35 (by decide) ?_
      refine g_goto (tgt := 50) dX12_valuesOf_36 (by decide) ?_
      exact g_iret dX12_valuesOf_50 rfl rfl hX2 hX1 hf
  · rw [if_neg c3] at hf
    refine g_iload_n (j := 1) dX12_valuesOf_7 rfl rfl ?_
    obtain ⟨σ12, v13, eσ12, hf⟩ := cb_el hf
    refine g_callS_i dX12_valuesOf_8 (wX12_known _ eσ12) (okX12_known _ (by decide) (by decide)) t_2365 t_2366 rfl (Nat.le_trans (cat_le _) (Nat.le_of_ble_eq_true rfl)) rfl ?_
    obtain ⟨σ14, v15, eσ14, hf⟩ := cb_el hf
    refine g_callS_i dX12_valuesOf_11 (wX12_hasTwo _ eσ14) (okX12_hasTwo _ (by decide) (by decide)) t_2368 t_2369 rfl (Nat.le_trans (cat_le _) (Nat.le_of_ble_eq_true rfl)) rfl ?_
    refine g_if_eq (tgt := 21) dX12_valuesOf_14 (by decide) (fun c16 => ?_) (fun c16 => ?_)
    · rw [if_pos c16] at hf
      refine g_iconst (v := 1) dX12_valuesOf_21 (by decide) ?_
      exact g_iret dX12_valuesOf_22 rfl rfl hX2 hX1 hf
    · rw [if_neg c16] at hf
      refine g_iconst (v := 2) dX12_valuesOf_17 (by decide) ?_
      refine g_goto (tgt := 22) dX12_valuesOf_18 (by decide) ?_
      exact g_iret dX12_valuesOf_22 rfl rfl hX2 hX1 hf

theorem okX12_valuesOf (M : Mt) (h1 : 2 + 1 ≤ M.2.2.2.2.1) (h2 : 8 + (3 + 11) + 108 ≤ M.2.2.2.2.2.1) : CallOk M MtX12_valuesOf yX12_valuesOf 1 := ⟨t_2364, h1, h2, ⟨by decide, by decide⟩, by decide +kernel, t_16⟩
abbrev MtX12_unknownAt : Mt := (cX12_unknownAt, 5, "ExactlySaidModel", (Option.some Jvm.ClassFile.FieldType.int), 3, 130, false)
set_option maxRecDepth 100000 in
set_option maxHeartbeats 4000000 in
theorem bX12_unknownAt_119 {X : Xt} {σf : St} {r : Int32} (hX1 : X.2.2.1 = σf) (hX2 : X.2.2.2 = .inl (some (.int r))) {k9 : St → Nat → Int32 → Int32 → Int32 → Option (St × Int32)} (hk9 : ∀ (σ : St) (x0 : Nat) (x1 : Int32) (x2 : Int32) (x3 : Int32), k9 σ x0 x1 x2 x3 = some (σf, r) → G MtX12_unknownAt X σ 9 [(0, rv x0), (1, .int x1), (2, .int x2), (3, .int x3)] []) {σ : St} {x0 : Nat} {x1 : Int32} {x2 : Int32} {x3 : Int32} (hf : fX12_unknownAt_119 k9 σ x0 x1 x2 x3 = some (σf, r)) : G MtX12_unknownAt X σ 119 [(0, rv x0), (1, .int x1), (2, .int x2), (3, .int x3)] [] := by
  unfold fX12_unknownAt_119 at hf
  obtain ⟨v1, ev1, hf⟩ := nm_el hf
  refine g_iinc (L' := [(3, .int v1), (0, rv x0), (1, .int x1), (2, .int x2)]) (j := 3) (v := v1) dX12_unknownAt_119 rfl (by rw [ev1]; rfl) (Nat.le_of_ble_eq_true rfl) rfl ?_
  refine g_goto (tgt := 9) dX12_unknownAt_122 (by decide) ?_
  refine g_sub (L' := [(0, rv x0), (1, .int x1), (2, .int x2), (3, .int v1)]) [1, 2, 3, 0] rfl ?_
  exact hk9 _ _ _ _ _ hf

set_option maxRecDepth 100000 in
set_option maxHeartbeats 4000000 in
theorem bX12_unknownAt_112 {X : Xt} {σf : St} {r : Int32} (hX1 : X.2.2.1 = σf) (hX2 : X.2.2.2 = .inl (some (.int r))) {k9 : St → Nat → Int32 → Int32 → Int32 → Option (St × Int32)} (hk9 : ∀ (σ : St) (x0 : Nat) (x1 : Int32) (x2 : Int32) (x3 : Int32), k9 σ x0 x1 x2 x3 = some (σf, r) → G MtX12_unknownAt X σ 9 [(0, rv x0), (1, .int x1), (2, .int x2), (3, .int x3)] []) {σ : St} {x0 : Nat} {x1 : Int32} {x3 : Int32} (hf : fX12_unknownAt_112 k9 σ x0 x1 x3 = some (σf, r)) : G MtX12_unknownAt X σ 112 [(0, rv x0), (1, .int x1), (3, .int x3)] [] := by
  unfold fX12_unknownAt_112 at hf
  refine g_aload_n (j := 0) dX12_unknownAt_112 rfl rfl ?_
  obtain ⟨v1, ev1, hf⟩ := ob hf
  refine g_getF dX12_unknownAt_113 ev1 t_1987 hin16 hc16 (by decide) rfl ?_
  refine g_iload_n (j := 2) dX12_unknownAt_116 rfl rfl ?_
  obtain ⟨v2, ev2, hf⟩ := ob hf
  refine g_iald dX12_unknownAt_117 ev2 ?_
  refine g_istore_n (i := 2) (L' := [(2, .int v2), (0, rv x0), (1, .int x1), (3, .int x3)]) dX12_unknownAt_118 rfl (Nat.le_of_ble_eq_true rfl) rfl ?_
  refine g_sub (L' := [(0, rv x0), (1, .int x1), (2, .int v2), (3, .int x3)]) [1, 2, 0, 3] rfl ?_
  exact bX12_unknownAt_119 hX1 hX2 hk9 hf

set_option maxRecDepth 100000 in
set_option maxHeartbeats 4000000 in
theorem bX12_unknownAt_92 {X : Xt} {σf : St} {r : Int32} (hX1 : X.2.2.1 = σf) (hX2 : X.2.2.2 = .inl (some (.int r))) {k9 : St → Nat → Int32 → Int32 → Int32 → Option (St × Int32)} (hk9 : ∀ (σ : St) (x0 : Nat) (x1 : Int32) (x2 : Int32) (x3 : Int32), k9 σ x0 x1 x2 x3 = some (σf, r) → G MtX12_unknownAt X σ 9 [(0, rv x0), (1, .int x1), (2, .int x2), (3, .int x3)] []) {σ : St} {x0 : Nat} {x1 : Int32} {x2 : Int32} {x3 : Int32} {x4 : Int32} (hf : fX12_unknownAt_92 k9 σ x0 x1 x2 x3 x4 = some (σf, r)) : G MtX12_unknownAt X σ 92 [(0, rv x0), (1, .int x1), (2, .int x2), (3, .int x3), (4, .int x4)] [] := by
  unfold fX12_unknownAt_92 at hf
  refine g_iload (j := 4) dX12_unknownAt_92 rfl ?_
  refine g_if_ne (tgt := 119) dX12_unknownAt_94 (by decide) (fun c1 => ?_) (fun c1 => ?_)
  · rw [if_neg c1] at hf
    refine g_sub (L' := [(0, rv x0), (1, .int x1), (2, .int x2), (3, .int x3)]) [0, 1, 2, 3] rfl ?_
    exact bX12_unknownAt_119 hX1 hX2 hk9 hf
  · rw [if_pos c1] at hf
    refine g_iload_n (j := 2) dX12_unknownAt_97 rfl rfl ?_
    refine g_iconst (v := (-1)) dX12_unknownAt_98 (by decide) ?_
    refine g_icmp_eq (tgt := 112) dX12_unknownAt_99 (by decide) (fun c2 => ?_) (fun c2 => ?_)
    · rw [if_pos c2] at hf
      refine g_sub (L' := [(0, rv x0), (1, .int x1), (3, .int x3)]) [0, 1, 3] rfl ?_
      exact bX12_unknownAt_112 hX1 hX2 hk9 hf
    · rw [if_neg c2] at hf
      refine g_aload_n (j := 0) dX12_unknownAt_102 rfl rfl ?_
      obtain ⟨v3, ev3, hf⟩ := ob hf
      refine g_getF dX12_unknownAt_103 ev3 t_1987 hin16 hc16 (by decide) rfl ?_
      refine g_iload_n (j := 3) dX12_unknownAt_106 rfl rfl ?_
      obtain ⟨v4, ev4, hf⟩ := ob hf
      refine g_iald dX12_unknownAt_107 ev4 ?_
      refine g_iload_n (j := 2) dX12_unknownAt_108 rfl rfl ?_
      refine g_icmp_ge (tgt := 119) dX12_unknownAt_109 (by decide) (fun c5 => ?_) (fun c5 => ?_)
      · rw [if_pos c5] at hf
        refine g_sub (L' := [(0, rv x0), (1, .int x1), (2, .int x2), (3, .int x3)]) [0, 1, 2, 3] rfl ?_
        exact bX12_unknownAt_119 hX1 hX2 hk9 hf
      · rw [if_neg c5] at hf
        refine g_sub (L' := [(0, rv x0), (1, .int x1), (3, .int x3)]) [0, 1, 3] rfl ?_
        exact bX12_unknownAt_112 hX1 hX2 hk9 hf

set_option maxRecDepth 100000 in
set_option maxHeartbeats 4000000 in
theorem bX12_unknownAt_90 {X : Xt} {σf : St} {r : Int32} (hX1 : X.2.2.1 = σf) (hX2 : X.2.2.2 = .inl (some (.int r))) {k9 : St → Nat → Int32 → Int32 → Int32 → Option (St × Int32)} (hk9 : ∀ (σ : St) (x0 : Nat) (x1 : Int32) (x2 : Int32) (x3 : Int32), k9 σ x0 x1 x2 x3 = some (σf, r) → G MtX12_unknownAt X σ 9 [(0, rv x0), (1, .int x1), (2, .int x2), (3, .int x3)] []) {σ : St} {x0 : Nat} {x1 : Int32} {x2 : Int32} {x3 : Int32} {y0 : Int32} (hf : fX12_unknownAt_90 k9 σ x0 x1 x2 x3 y0 = some (σf, r)) : G MtX12_unknownAt X σ 90 [(0, rv x0), (1, .int x1), (2, .int x2), (3, .int x3)] [.int y0] := by
  unfold fX12_unknownAt_90 at hf
  refine g_istore (i := 4) (L' := [(4, .int y0), (0, rv x0), (1, .int x1), (2, .int x2), (3, .int x3)]) dX12_unknownAt_90 (Nat.le_of_ble_eq_true rfl) rfl ?_
  refine g_sub (L' := [(0, rv x0), (1, .int x1), (2, .int x2), (3, .int x3), (4, .int y0)]) [1, 2, 3, 4, 0] rfl ?_
  exact bX12_unknownAt_92 hX1 hX2 hk9 hf

set_option maxRecDepth 100000 in
set_option maxHeartbeats 4000000 in
theorem bX12_unknownAt_55 {X : Xt} {σf : St} {r : Int32} (hX1 : X.2.2.1 = σf) (hX2 : X.2.2.2 = .inl (some (.int r))) {k9 : St → Nat → Int32 → Int32 → Int32 → Option (St × Int32)} (hk9 : ∀ (σ : St) (x0 : Nat) (x1 : Int32) (x2 : Int32) (x3 : Int32), k9 σ x0 x1 x2 x3 = some (σf, r) → G MtX12_unknownAt X σ 9 [(0, rv x0), (1, .int x1), (2, .int x2), (3, .int x3)] []) {σ : St} {x0 : Nat} {x1 : Int32} {x2 : Int32} {x3 : Int32} {x4 : Int32} (hf : fX12_unknownAt_55 k9 σ x0 x1 x2 x3 x4 = some (σf, r)) : G MtX12_unknownAt X σ 55 [(0, rv x0), (1, .int x1), (2, .int x2), (3, .int x3), (4, .int x4)] [] := by
  unfold fX12_unknownAt_55 at hf
  refine g_aload_n (j := 0) dX12_unknownAt_55 rfl rfl ?_
  obtain ⟨v1, ev1, hf⟩ := ob hf
  refine g_getF dX12_unknownAt_56 ev1 t_1984 hin16 hc16 (by decide) rfl ?_
  refine g_iload_n (j := 3) dX12_unknownAt_59 rfl rfl ?_
  obtain ⟨v2, ev2, hf⟩ := ob hf
  refine g_iald dX12_unknownAt_60 ev2 ?_
  refine g_bipush (v := 33) dX12_unknownAt_61 (by decide) ?_
  refine g_icmp_ne (tgt := 92) dX12_unknownAt_63 (by decide) (fun c3 => ?_) (fun c3 => ?_)
  · rw [if_neg c3] at hf
    exact bX12_unknownAt_92 hX1 hX2 hk9 hf
  · rw [if_pos c3] at hf
    refine g_aload_n (j := 0) dX12_unknownAt_66 rfl rfl ?_
    obtain ⟨v4, ev4, hf⟩ := ob hf
    refine g_getF dX12_unknownAt_67 ev4 t_1986 hin16 hc16 (by decide) rfl ?_
    refine g_iload_n (j := 3) dX12_unknownAt_70 rfl rfl ?_
    obtain ⟨v5, ev5, hf⟩ := ob hf
    refine g_iald dX12_unknownAt_71 ev5 ?_
    refine g_aload_n (j := 0) dX12_unknownAt_72 rfl rfl ?_
    refine g_aload_n (j := 0) dX12_unknownAt_73 rfl rfl ?_
    obtain ⟨v6, ev6, hf⟩ := ob hf
    refine g_getF dX12_unknownAt_74 ev6 t_1985 hin16 hc16 (by decide) rfl ?_
    refine g_iload_n (j := 3) dX12_unknownAt_77 rfl rfl ?_
    obtain ⟨v7, ev7, hf⟩ := ob hf
    refine g_iald dX12_unknownAt_78 ev7 ?_
    obtain ⟨_, h10, hf⟩ := ob hf
    obtain ⟨σ8, v9, eσ8, hf⟩ := cb_el hf
    refine g_callV_i dX12_unknownAt_79 (wX12_valuesOf _ eσ8) (okX12_valuesOf _ (by decide) (by decide)) (ckK_el h10) hc16 t_2361 t_2363 s_X12_valuesOf rfl (Nat.le_trans (cat_le _) (Nat.le_of_ble_eq_true rfl)) rfl ?_
    refine g_icmp_ne (tgt := 89) dX12_unknownAt_82 (by decide) (fun c11 => ?_) (fun c11 => ?_)
    · rw [if_neg c11] at hf
      refine g_iconst (v := 0) dX12_unknownAt_89 (by decide) ?_
      refine g_sub (L' := [(0, rv x0), (1, .int x1), (2, .int x2), (3, .int x3)]) [0, 1, 2, 3] rfl ?_
      exact bX12_unknownAt_90 hX1 hX2 hk9 hf
    · rw [if_pos c11] at hf
      refine g_iconst (v := 1) dX12_unknownAt_85 (by decide) ?_
      refine g_goto (tgt := 90) dX12_unknownAt_86 (by decide) ?_
      refine g_sub (L' := [(0, rv x0), (1, .int x1), (2, .int x2), (3, .int x3)]) [0, 1, 2, 3] rfl ?_
      exact bX12_unknownAt_90 hX1 hX2 hk9 hf

set_option maxRecDepth 100000 in
set_option maxHeartbeats 4000000 in
theorem bX12_unknownAt_53 {X : Xt} {σf : St} {r : Int32} (hX1 : X.2.2.1 = σf) (hX2 : X.2.2.2 = .inl (some (.int r))) {k9 : St → Nat → Int32 → Int32 → Int32 → Option (St × Int32)} (hk9 : ∀ (σ : St) (x0 : Nat) (x1 : Int32) (x2 : Int32) (x3 : Int32), k9 σ x0 x1 x2 x3 = some (σf, r) → G MtX12_unknownAt X σ 9 [(0, rv x0), (1, .int x1), (2, .int x2), (3, .int x3)] []) {σ : St} {x0 : Nat} {x1 : Int32} {x2 : Int32} {x3 : Int32} {y0 : Int32} (hf : fX12_unknownAt_53 k9 σ x0 x1 x2 x3 y0 = some (σf, r)) : G MtX12_unknownAt X σ 53 [(0, rv x0), (1, .int x1), (2, .int x2), (3, .int x3)] [.int y0] := by
  unfold fX12_unknownAt_53 at hf
  refine g_istore (i := 4) (L' := [(4, .int y0), (0, rv x0), (1, .int x1), (2, .int x2), (3, .int x3)]) dX12_unknownAt_53 (Nat.le_of_ble_eq_true rfl) rfl ?_
  refine g_sub (L' := [(0, rv x0), (1, .int x1), (2, .int x2), (3, .int x3), (4, .int y0)]) [1, 2, 3, 4, 0] rfl ?_
  exact bX12_unknownAt_55 hX1 hX2 hk9 hf

set_option maxRecDepth 100000 in
set_option maxHeartbeats 4000000 in
theorem bX12_unknownAt_9 {X : Xt} {σf : St} {r : Int32} (hX1 : X.2.2.1 = σf) (hX2 : X.2.2.2 = .inl (some (.int r))) : ∀ (n : Nat) (σ : St) (x0 : Nat) (x1 : Int32) (x2 : Int32) (x3 : Int32), fX12_unknownAt_9 n σ x0 x1 x2 x3 = some (σf, r) → G MtX12_unknownAt X σ 9 [(0, rv x0), (1, .int x1), (2, .int x2), (3, .int x3)] [] := by
  intro n
  induction n with
  | zero => intro σ x0 x1 x2 x3 hf; cases hf
  | succ n ih =>
    intro σ x0 x1 x2 x3 hf
    rw [fX12_unknownAt_9] at hf
    refine g_iload_n (j := 3) dX12_unknownAt_9 rfl rfl ?_
    refine g_aload_n (j := 0) dX12_unknownAt_10 rfl rfl ?_
    obtain ⟨v1, ev1, hf⟩ := ob hf
    refine g_getF dX12_unknownAt_11 ev1 t_1990 hin16 hc16 (by decide) rfl ?_
    refine g_iload_n (j := 1) dX12_unknownAt_14 rfl rfl ?_
    obtain ⟨v2, ev2, hf⟩ := ob hf
    refine g_iald dX12_unknownAt_15 ev2 ?_
    refine g_icmp_ge (tgt := 125) dX12_unknownAt_16 (by decide) (fun c3 => ?_) (fun c3 => ?_)
    · rw [if_pos c3] at hf
      refine g_iload_n (j := 2) dX12_unknownAt_125 rfl rfl ?_
      exact g_iret dX12_unknownAt_126 rfl rfl hX2 hX1 hf
    · rw [if_neg c3] at hf
      refine g_iconst (v := 1) dX12_unknownAt_19 (by decide) ?_
      refine g_istore (i := 4) (L' := [(4, .int 1), (0, rv x0), (1, .int x1), (2, .int x2), (3, .int x3)]) dX12_unknownAt_20 (Nat.le_of_ble_eq_true rfl) rfl ?_
      refine g_aload_n (j := 1) dX12_unknownAt_22 rfl rfl ?_
      obtain ⟨v4, ev4, hf⟩ := ob hf
      refine g_getF dX12_unknownAt_23 ev4 t_1984 hin16 hc16 (by decide) rfl ?_
      refine g_iload_n (j := 4) dX12_unknownAt_26 rfl rfl ?_
      obtain ⟨v5, ev5, hf⟩ := ob hf
      refine g_iald dX12_unknownAt_27 ev5 ?_
      refine g_bipush (v := 31) dX12_unknownAt_28 (by decide) ?_
      refine g_icmp_ne (tgt := 55) dX12_unknownAt_30 (by decide) (fun c6 => ?_) (fun c6 => ?_)
      · rw [if_neg c6] at hf
        refine g_sub (L' := [(0, rv x0), (1, .int x1), (2, .int x2), (3, .int x3), (4, .int 1)]) [1, 2, 3, 4, 0] rfl ?_
        exact bX12_unknownAt_55 hX1 hX2 (fun σ x0 x1 x2 x3 hf => ih σ x0 x1 x2 x3 hf) hf
      · rw [if_pos c6] at hf
        refine g_aload_n (j := 1) dX12_unknownAt_33 rfl rfl ?_
        refine g_aload_n (j := 1) dX12_unknownAt_34 rfl rfl ?_
        obtain ⟨v7, ev7, hf⟩ := ob hf
        refine g_getF dX12_unknownAt_35 ev7 t_1985 hin16 hc16 (by decide) rfl ?_
        refine g_iload_n (j := 4) dX12_unknownAt_38 rfl rfl ?_
        obtain ⟨v8, ev8, hf⟩ := ob hf
        refine g_iald dX12_unknownAt_39 ev8 ?_
        refine g_iconst (v := 0) dX12_unknownAt_40 (by decide) ?_
        obtain ⟨_, h11, hf⟩ := ob hf
        obtain ⟨σ9, v10, eσ9, hf⟩ := cb_el hf
        refine g_callV_i dX12_unknownAt_41 (wX12_thing _ eσ9) (okX12_thing _ (by decide) (by decide)) (ckK_el h11) hc16 t_2357 t_2359 s_X12_thing rfl (Nat.le_trans (cat_le _) (Nat.le_of_ble_eq_true rfl)) rfl ?_
        refine g_iconst (v := (-1)) dX12_unknownAt_44 (by decide) ?_
        refine g_icmp_eq (tgt := 52) dX12_unknownAt_45 (by decide) (fun c12 => ?_) (fun c12 => ?_)
        · rw [if_pos c12] at hf
          refine g_iconst (v := 0) dX12_unknownAt_52 (by decide) ?_
          refine g_sub (L' := [(0, rv x0), (1, .int x1), (2, .int x2), (3, .int x3)]) [1, 2, 3, 4] rfl ?_
          exact bX12_unknownAt_53 hX1 hX2 (fun σ x0 x1 x2 x3 hf => ih σ x0 x1 x2 x3 hf) hf
        · rw [if_neg c12] at hf
          refine g_iconst (v := 1) dX12_unknownAt_48 (by decide) ?_
          refine g_goto (tgt := 53) dX12_unknownAt_49 (by decide) ?_
          refine g_sub (L' := [(0, rv x0), (1, .int x1), (2, .int x2), (3, .int x3)]) [1, 2, 3, 4] rfl ?_
          exact bX12_unknownAt_53 hX1 hX2 (fun σ x0 x1 x2 x3 hf => ih σ x0 x1 x2 x3 hf) hf

set_option maxRecDepth 100000 in
set_option maxHeartbeats 4000000 in
theorem wX12_unknownAt (l : Launch) {σ σf : St} {x0 : Nat} {x1 : Int32} {r : Int32} (hf : fX12_unknownAt σ x0 x1 = some (σf, r)) : Con MtX12_unknownAt yX12_unknownAt l σ [rv x0, .int x1] σf (some (.int r)) := by
  refine Con.of (by decide +kernel) rfl (fun h => absurd (show false = true from h) (by decide)) (by simp only [sl_n, sl_r, sl_i, sl_l]; exact Nat.le_of_ble_eq_true rfl) ?_
  rw [show lv_args 0 [rv x0, .int x1] = [(0, rv x0), (1, .int x1)] by simp only [la_n, la_r, la_i, la_l] <;> rfl]
  have hX1 : ((l, σ, σf, .inl (some (.int r))) : Xt).2.2.1 = σf := rfl
  have hX2 : ((l, σ, σf, .inl (some (.int r))) : Xt).2.2.2 = .inl (some (.int r)) := rfl
  unfold fX12_unknownAt at hf
  refine g_iconst (v := (-1)) dX12_unknownAt_0 (by decide) ?_
  refine g_istore_n (i := 2) (L' := [(2, .int ((-1))), (0, rv x0), (1, .int x1)]) dX12_unknownAt_1 rfl (Nat.le_of_ble_eq_true rfl) rfl ?_
  refine g_aload_n (j := 1) dX12_unknownAt_2 rfl rfl ?_
  obtain ⟨v1, ev1, hf⟩ := ob hf
  refine g_getF dX12_unknownAt_3 ev1 t_1989 hin16 hc16 (by decide) rfl ?_
  refine g_iload_n (j := 2) dX12_unknownAt_6 rfl rfl ?_
  obtain ⟨v2, ev2, hf⟩ := ob hf
  refine g_iald dX12_unknownAt_7 ev2 ?_
  refine g_istore_n (i := 3) (L' := [(3, .int v2), (2, .int ((-1))), (0, rv x0), (1, .int x1)]) dX12_unknownAt_8 rfl (Nat.le_of_ble_eq_true rfl) rfl ?_
  refine g_sub (L' := [(0, rv x0), (1, .int x1), (2, .int ((-1))), (3, .int v2)]) [2, 3, 1, 0] rfl ?_
  exact bX12_unknownAt_9 hX1 hX2 FU _ _ _ _ _ hf

theorem okX12_unknownAt (M : Mt) (h1 : 3 + 1 ≤ M.2.2.2.2.1) (h2 : 8 + (5 + 11) + 130 ≤ M.2.2.2.2.2.1) : CallOk M MtX12_unknownAt yX12_unknownAt 1 := ⟨t_2356, h1, h2, ⟨by decide, by decide⟩, by decide +kernel, t_16⟩
abbrev MtX12_refuses : Mt := (cX12_refuses, 3, "ExactlySaidModel", (Option.some Jvm.ClassFile.FieldType.boolean), 1, 84, false)
set_option maxRecDepth 100000 in
set_option maxHeartbeats 4000000 in
theorem wX12_refuses (l : Launch) {σ σf : St} {x0 : Nat} {x1 : Int32} {x2 : Int32} {r : Int32} (hf : fX12_refuses σ x0 x1 x2 = some (σf, r)) : Con MtX12_refuses yX12_refuses l σ [rv x0, .int x1, .int x2] σf (some (.int r)) := by
  refine Con.of (by decide +kernel) rfl (fun h => absurd (show false = true from h) (by decide)) (by simp only [sl_n, sl_r, sl_i, sl_l]; exact Nat.le_of_ble_eq_true rfl) ?_
  rw [show lv_args 0 [rv x0, .int x1, .int x2] = [(0, rv x0), (1, .int x1), (2, .int x2)] by simp only [la_n, la_r, la_i, la_l] <;> rfl]
  have hX1 : ((l, σ, σf, .inl (some (.int r))) : Xt).2.2.1 = σf := rfl
  have hX2 : ((l, σ, σf, .inl (some (.int r))) : Xt).2.2.2 = .inl (some (.int r)) := rfl
  unfold fX12_refuses at hf
  refine g_aload_n (j := 0) dX12_refuses_0 rfl rfl ?_
  refine g_iload_n (j := 1) dX12_refuses_1 rfl rfl ?_
  obtain ⟨σ1, eσ1, hf⟩ := ob hf
  refine g_putI dX12_refuses_2 eσ1 (Or.inl t_2010) hin16 hc16 (by decide) hty16 hnm16 (Or.inl rfl) rfl rfl rfl ?_
  refine g_aload_n (j := 0) dX12_refuses_5 rfl rfl ?_
  refine g_iload_n (j := 2) dX12_refuses_6 rfl rfl ?_
  obtain ⟨σ2, eσ2, hf⟩ := ob hf
  refine g_putI dX12_refuses_7 eσ2 (Or.inl t_2011) hin16 hc16 (by decide) hty16 hnm16 (Or.inl rfl) rfl rfl rfl ?_
  refine g_aload_n (j := 0) dX12_refuses_10 rfl rfl ?_
  refine g_iconst (v := (-1)) dX12_refuses_11 (by decide) ?_
  obtain ⟨σ3, eσ3, hf⟩ := ob hf
  refine g_putI dX12_refuses_12 eσ3 (Or.inl t_2012) hin16 hc16 (by decide) hty16 hnm16 (Or.inl rfl) rfl rfl rfl ?_
  refine g_aload_n (j := 0) dX12_refuses_15 rfl rfl ?_
  refine g_iconst (v := 0) dX12_refuses_16 (by decide) ?_
  obtain ⟨σ4, eσ4, hf⟩ := ob hf
  refine g_putI dX12_refuses_17 eσ4 (Or.inl t_2013) hin16 hc16 (by decide) hty16 hnm16 (Or.inl rfl) rfl rfl rfl ?_
  refine g_iconst (v := 1) dX12_refuses_20 (by decide) ?_
  exact g_iret dX12_refuses_21 rfl (by decide) hX2 hX1 hf

theorem okX12_refuses (M : Mt) (h1 : 1 + 1 ≤ M.2.2.2.2.1) (h2 : 8 + (3 + 11) + 84 ≤ M.2.2.2.2.2.1) : CallOk M MtX12_refuses yX12_refuses 2 := ⟨t_2374, h1, h2, ⟨by decide, by decide⟩, by decide +kernel, t_16⟩
abbrev MtX12_isThere : Mt := (cX12_isThere, 2, "ExactlySaidModel", (Option.some Jvm.ClassFile.FieldType.boolean), 1, 84, false)
set_option maxRecDepth 100000 in
set_option maxHeartbeats 4000000 in
theorem wX12_isThere (l : Launch) {σ σf : St} {x0 : Nat} {x1 : Int32} {r : Int32} (hf : fX12_isThere σ x0 x1 = some (σf, r)) : Con MtX12_isThere yX12_isThere l σ [rv x0, .int x1] σf (some (.int r)) := by
  refine Con.of (by decide +kernel) rfl (fun h => absurd (show false = true from h) (by decide)) (by simp only [sl_n, sl_r, sl_i, sl_l]; exact Nat.le_of_ble_eq_true rfl) ?_
  rw [show lv_args 0 [rv x0, .int x1] = [(0, rv x0), (1, .int x1)] by simp only [la_n, la_r, la_i, la_l] <;> rfl]
  have hX1 : ((l, σ, σf, .inl (some (.int r))) : Xt).2.2.1 = σf := rfl
  have hX2 : ((l, σ, σf, .inl (some (.int r))) : Xt).2.2.2 = .inl (some (.int r)) := rfl
  unfold fX12_isThere at hf
  refine g_iload_n (j := 1) dX12_isThere_0 rfl rfl ?_
  refine g_bipush (v := 20) dX12_isThere_1 (by decide) ?_
  refine g_icmp_ge (tgt := 22) dX12_isThere_3 (by decide) (fun c1 => ?_) (fun c1 => ?_)
  · rw [if_pos c1] at hf
    refine g_iload_n (j := 1) dX12_isThere_22 rfl rfl ?_
    refine g_bipush (v := 20) dX12_isThere_23 (by decide) ?_
    refine g_isub dX12_isThere_25 ?_
    refine g_aload_n (j := 0) dX12_isThere_26 rfl rfl ?_
    obtain ⟨v2, ev2, hf⟩ := ob hf
    refine g_getI dX12_isThere_27 ev2 t_2008 hin16 hc16 (by decide) rfl ?_
    refine g_icmp_ge (tgt := 37) dX12_isThere_30 (by decide) (fun c3 => ?_) (fun c3 => ?_)
    · rw [if_pos c3] at hf
      refine g_iconst (v := 0) dX12_isThere_37 (by decide) ?_
      exact g_iret dX12_isThere_38 rfl (by decide) hX2 hX1 hf
    · rw [if_neg c3] at hf
      refine g_iconst (v := 1) dX12_isThere_33 (by decide) ?_
      refine g_goto (tgt := 38) dX12_isThere_34 (by decide) ?_
      exact g_iret dX12_isThere_38 rfl (by decide) hX2 hX1 hf
  · rw [if_neg c1] at hf
    refine g_iload_n (j := 1) dX12_isThere_6 rfl rfl ?_
    refine g_aload_n (j := 0) dX12_isThere_7 rfl rfl ?_
    obtain ⟨v4, ev4, hf⟩ := ob hf
    refine g_getI dX12_isThere_8 ev4 t_2007 hin16 hc16 (by decide) rfl ?_
    refine g_icmp_ge (tgt := 18) dX12_isThere_11 (by decide) (fun c5 => ?_) (fun c5 => ?_)
    · rw [if_pos c5] at hf
      refine g_iconst (v := 0) dX12_isThere_18 (by decide) ?_
      refine g_goto (tgt := 38) dX12_isThere_19 (by decide) ?_
      exact g_iret dX12_isThere_38 rfl (by decide) hX2 hX1 hf
    · rw [if_neg c5] at hf
      refine g_iconst (v := 1) dX12_isThere_14 (by decide) ?_
      refine g_goto (tgt := 38) dX12_isThere_15 (by decide) ?_
      exact g_iret dX12_isThere_38 rfl (by decide) hX2 hX1 hf

theorem okX12_isThere (M : Mt) (h1 : 1 + 1 ≤ M.2.2.2.2.1) (h2 : 8 + (2 + 11) + 84 ≤ M.2.2.2.2.2.1) : CallOk M MtX12_isThere yX12_isThere 1 := ⟨t_2382, h1, h2, ⟨by decide, by decide⟩, by decide +kernel, t_16⟩
abbrev MtX12_hasDirectly : Mt := (cX12_hasDirectly, 4, "ExactlySaidModel", (Option.some Jvm.ClassFile.FieldType.boolean), 1, 84, false)
set_option maxRecDepth 100000 in
set_option maxHeartbeats 4000000 in
theorem bX12_hasDirectly_85 {X : Xt} {σf : St} {r : Int32} (hX1 : X.2.2.1 = σf) (hX2 : X.2.2.2 = .inl (some (.int r))) {k7 : St → Nat → Int32 → Int32 → Int32 → Option (St × Int32)} (hk7 : ∀ (σ : St) (x0 : Nat) (x1 : Int32) (x2 : Int32) (x3 : Int32), k7 σ x0 x1 x2 x3 = some (σf, r) → G MtX12_hasDirectly X σ 7 [(0, rv x0), (1, .int x1), (2, .int x2), (3, .int x3)] []) {σ : St} {x0 : Nat} {x1 : Int32} {x2 : Int32} {x3 : Int32} (hf : fX12_hasDirectly_85 k7 σ x0 x1 x2 x3 = some (σf, r)) : G MtX12_hasDirectly X σ 85 [(0, rv x0), (1, .int x1), (2, .int x2), (3, .int x3)] [] := by
  unfold fX12_hasDirectly_85 at hf
  obtain ⟨v1, ev1, hf⟩ := nm_el hf
  refine g_iinc (L' := [(3, .int v1), (0, rv x0), (1, .int x1), (2, .int x2)]) (j := 3) (v := v1) dX12_hasDirectly_85 rfl (by rw [ev1]; rfl) (Nat.le_of_ble_eq_true rfl) rfl ?_
  refine g_goto (tgt := 7) dX12_hasDirectly_88 (by decide) ?_
  refine g_sub (L' := [(0, rv x0), (1, .int x1), (2, .int x2), (3, .int v1)]) [1, 2, 3, 0] rfl ?_
  exact hk7 _ _ _ _ _ hf

set_option maxRecDepth 100000 in
set_option maxHeartbeats 4000000 in
theorem bX12_hasDirectly_51 {X : Xt} {σf : St} {r : Int32} (hX1 : X.2.2.1 = σf) (hX2 : X.2.2.2 = .inl (some (.int r))) {k7 : St → Nat → Int32 → Int32 → Int32 → Option (St × Int32)} (hk7 : ∀ (σ : St) (x0 : Nat) (x1 : Int32) (x2 : Int32) (x3 : Int32), k7 σ x0 x1 x2 x3 = some (σf, r) → G MtX12_hasDirectly X σ 7 [(0, rv x0), (1, .int x1), (2, .int x2), (3, .int x3)] []) {σ : St} {x0 : Nat} {x1 : Int32} {x2 : Int32} {x3 : Int32} (hf : fX12_hasDirectly_51 k7 σ x0 x1 x2 x3 = some (σf, r)) : G MtX12_hasDirectly X σ 51 [(0, rv x0), (1, .int x1), (2, .int x2), (3, .int x3)] [] := by
  unfold fX12_hasDirectly_51 at hf
  refine g_iload_n (j := 2) dX12_hasDirectly_51 rfl rfl ?_
  refine g_bipush (v := 20) dX12_hasDirectly_52 (by decide) ?_
  refine g_icmp_lt (tgt := 85) dX12_hasDirectly_54 (by decide) (fun c1 => ?_) (fun c1 => ?_)
  · rw [if_pos c1] at hf
    exact bX12_hasDirectly_85 hX1 hX2 hk7 hf
  · rw [if_neg c1] at hf
    refine g_aload_n (j := 0) dX12_hasDirectly_57 rfl rfl ?_
    obtain ⟨v2, ev2, hf⟩ := ob hf
    refine g_getF dX12_hasDirectly_58 ev2 t_1984 hin16 hc16 (by decide) rfl ?_
    refine g_iload_n (j := 3) dX12_hasDirectly_61 rfl rfl ?_
    obtain ⟨v3, ev3, hf⟩ := ob hf
    refine g_iald dX12_hasDirectly_62 ev3 ?_
    refine g_bipush (v := 33) dX12_hasDirectly_63 (by decide) ?_
    refine g_icmp_ne (tgt := 85) dX12_hasDirectly_65 (by decide) (fun c4 => ?_) (fun c4 => ?_)
    · rw [if_neg c4] at hf
      exact bX12_hasDirectly_85 hX1 hX2 hk7 hf
    · rw [if_pos c4] at hf
      refine g_aload_n (j := 0) dX12_hasDirectly_68 rfl rfl ?_
      obtain ⟨v5, ev5, hf⟩ := ob hf
      refine g_getF dX12_hasDirectly_69 ev5 t_1985 hin16 hc16 (by decide) rfl ?_
      refine g_iload_n (j := 3) dX12_hasDirectly_72 rfl rfl ?_
      obtain ⟨v6, ev6, hf⟩ := ob hf
      refine g_iald dX12_hasDirectly_73 ev6 ?_
      refine g_aload_n (j := 0) dX12_hasDirectly_74 rfl rfl ?_
      obtain ⟨v7, ev7, hf⟩ := ob hf
      refine g_getF dX12_hasDirectly_75 ev7 t_2004 hin16 hc16 (by decide) rfl ?_
      refine g_iload_n (j := 2) dX12_hasDirectly_78 rfl rfl ?_
      obtain ⟨v8, ev8, hf⟩ := ob hf
      refine g_iald dX12_hasDirectly_79 ev8 ?_
      refine g_icmp_ne (tgt := 85) dX12_hasDirectly_80 (by decide) (fun c9 => ?_) (fun c9 => ?_)
      · rw [if_neg c9] at hf
        exact bX12_hasDirectly_85 hX1 hX2 hk7 hf
      · rw [if_pos c9] at hf
        refine g_iconst (v := 1) dX12_hasDirectly_83 (by decide) ?_
        exact g_iret dX12_hasDirectly_84 rfl (by decide) hX2 hX1 hf

set_option maxRecDepth 100000 in
set_option maxHeartbeats 4000000 in
theorem bX12_hasDirectly_7 {X : Xt} {σf : St} {r : Int32} (hX1 : X.2.2.1 = σf) (hX2 : X.2.2.2 = .inl (some (.int r))) : ∀ (n : Nat) (σ : St) (x0 : Nat) (x1 : Int32) (x2 : Int32) (x3 : Int32), fX12_hasDirectly_7 n σ x0 x1 x2 x3 = some (σf, r) → G MtX12_hasDirectly X σ 7 [(0, rv x0), (1, .int x1), (2, .int x2), (3, .int x3)] [] := by
  intro n
  induction n with
  | zero => intro σ x0 x1 x2 x3 hf; cases hf
  | succ n ih =>
    intro σ x0 x1 x2 x3 hf
    rw [fX12_hasDirectly_7] at hf
    refine g_iload_n (j := 3) dX12_hasDirectly_7 rfl rfl ?_
    refine g_aload_n (j := 0) dX12_hasDirectly_8 rfl rfl ?_
    obtain ⟨v1, ev1, hf⟩ := ob hf
    refine g_getF dX12_hasDirectly_9 ev1 t_1990 hin16 hc16 (by decide) rfl ?_
    refine g_iload_n (j := 1) dX12_hasDirectly_12 rfl rfl ?_
    obtain ⟨v2, ev2, hf⟩ := ob hf
    refine g_iald dX12_hasDirectly_13 ev2 ?_
    refine g_icmp_ge (tgt := 91) dX12_hasDirectly_14 (by decide) (fun c3 => ?_) (fun c3 => ?_)
    · rw [if_pos c3] at hf
      refine g_iconst (v := 0) dX12_hasDirectly_91 (by decide) ?_
      exact g_iret dX12_hasDirectly_92 rfl (by decide) hX2 hX1 hf
    · rw [if_neg c3] at hf
      refine g_iload_n (j := 2) dX12_hasDirectly_17 rfl rfl ?_
      refine g_bipush (v := 20) dX12_hasDirectly_18 (by decide) ?_
      refine g_icmp_ge (tgt := 51) dX12_hasDirectly_20 (by decide) (fun c4 => ?_) (fun c4 => ?_)
      · rw [if_pos c4] at hf
        exact bX12_hasDirectly_51 hX1 hX2 (fun σ x0 x1 x2 x3 hf => ih σ x0 x1 x2 x3 hf) hf
      · rw [if_neg c4] at hf
        refine g_aload_n (j := 0) dX12_hasDirectly_23 rfl rfl ?_
        obtain ⟨v5, ev5, hf⟩ := ob hf
        refine g_getF dX12_hasDirectly_24 ev5 t_1984 hin16 hc16 (by decide) rfl ?_
        refine g_iload_n (j := 3) dX12_hasDirectly_27 rfl rfl ?_
        obtain ⟨v6, ev6, hf⟩ := ob hf
        refine g_iald dX12_hasDirectly_28 ev6 ?_
        refine g_bipush (v := 31) dX12_hasDirectly_29 (by decide) ?_
        refine g_icmp_ne (tgt := 51) dX12_hasDirectly_31 (by decide) (fun c7 => ?_) (fun c7 => ?_)
        · rw [if_neg c7] at hf
          exact bX12_hasDirectly_51 hX1 hX2 (fun σ x0 x1 x2 x3 hf => ih σ x0 x1 x2 x3 hf) hf
        · rw [if_pos c7] at hf
          refine g_aload_n (j := 0) dX12_hasDirectly_34 rfl rfl ?_
          obtain ⟨v8, ev8, hf⟩ := ob hf
          refine g_getF dX12_hasDirectly_35 ev8 t_1985 hin16 hc16 (by decide) rfl ?_
          refine g_iload_n (j := 3) dX12_hasDirectly_38 rfl rfl ?_
          obtain ⟨v9, ev9, hf⟩ := ob hf
          refine g_iald dX12_hasDirectly_39 ev9 ?_
          refine g_aload_n (j := 0) dX12_hasDirectly_40 rfl rfl ?_
          obtain ⟨v10, ev10, hf⟩ := ob hf
          refine g_getF dX12_hasDirectly_41 ev10 t_2004 hin16 hc16 (by decide) rfl ?_
          refine g_iload_n (j := 2) dX12_hasDirectly_44 rfl rfl ?_
          obtain ⟨v11, ev11, hf⟩ := ob hf
          refine g_iald dX12_hasDirectly_45 ev11 ?_
          refine g_icmp_ne (tgt := 51) dX12_hasDirectly_46 (by decide) (fun c12 => ?_) (fun c12 => ?_)
          · rw [if_neg c12] at hf
            exact bX12_hasDirectly_51 hX1 hX2 (fun σ x0 x1 x2 x3 hf => ih σ x0 x1 x2 x3 hf) hf
          · rw [if_pos c12] at hf
            refine g_iconst (v := 1) dX12_hasDirectly_49 (by decide) ?_
            exact g_iret dX12_hasDirectly_50 rfl (by decide) hX2 hX1 hf

set_option maxRecDepth 100000 in
set_option maxHeartbeats 4000000 in
theorem wX12_hasDirectly (l : Launch) {σ σf : St} {x0 : Nat} {x1 : Int32} {x2 : Int32} {r : Int32} (hf : fX12_hasDirectly σ x0 x1 x2 = some (σf, r)) : Con MtX12_hasDirectly yX12_hasDirectly l σ [rv x0, .int x1, .int x2] σf (some (.int r)) := by
  refine Con.of (by decide +kernel) rfl (fun h => absurd (show false = true from h) (by decide)) (by simp only [sl_n, sl_r, sl_i, sl_l]; exact Nat.le_of_ble_eq_true rfl) ?_
  rw [show lv_args 0 [rv x0, .int x1, .int x2] = [(0, rv x0), (1, .int x1), (2, .int x2)] by simp only [la_n, la_r, la_i, la_l] <;> rfl]
  have hX1 : ((l, σ, σf, .inl (some (.int r))) : Xt).2.2.1 = σf := rfl
  have hX2 : ((l, σ, σf, .inl (some (.int r))) : Xt).2.2.2 = .inl (some (.int r)) := rfl
  unfold fX12_hasDirectly at hf
  refine g_aload_n (j := 0) dX12_hasDirectly_0 rfl rfl ?_
  obtain ⟨v1, ev1, hf⟩ := ob hf
  refine g_getF dX12_hasDirectly_1 ev1 t_1989 hin16 hc16 (by decide) rfl ?_
  refine g_iload_n (j := 1) dX12_hasDirectly_4 rfl rfl ?_
  obtain ⟨v2, ev2, hf⟩ := ob hf
  refine g_iald dX12_hasDirectly_5 ev2 ?_
  refine g_istore_n (i := 3) (L' := [(3, .int v2), (0, rv x0), (1, .int x1), (2, .int x2)]) dX12_hasDirectly_6 rfl (Nat.le_of_ble_eq_true rfl) rfl ?_
  refine g_sub (L' := [(0, rv x0), (1, .int x1), (2, .int x2), (3, .int v2)]) [1, 2, 3, 0] rfl ?_
  exact bX12_hasDirectly_7 hX1 hX2 FU _ _ _ _ _ hf

theorem okX12_hasDirectly (M : Mt) (h1 : 1 + 1 ≤ M.2.2.2.2.1) (h2 : 8 + (4 + 11) + 84 ≤ M.2.2.2.2.2.1) : CallOk M MtX12_hasDirectly yX12_hasDirectly 2 := ⟨t_2394, h1, h2, ⟨by decide, by decide⟩, by decide +kernel, t_16⟩
abbrev MtX12_findsUsed : Mt := (cX12_findsUsed, 5, "ExactlySaidModel", none, 2, 107, false)
set_option maxRecDepth 100000 in
set_option maxHeartbeats 4000000 in
theorem bX12_findsUsed_35 {X : Xt} {σf : St} {r : Unit} (hX1 : X.2.2.1 = σf) (hX2 : X.2.2.2 = .inl (none)) {k2 : St → Nat → Int32 → Int32 → Option (St × Unit)} (hk2 : ∀ (σ : St) (x0 : Nat) (x1 : Int32) (x2 : Int32), k2 σ x0 x1 x2 = some (σf, r) → G MtX12_findsUsed X σ 2 [(0, rv x0), (1, .int x1), (2, .int x2)] []) {σ : St} {x0 : Nat} {x1 : Int32} {x2 : Int32} {y0 : Nat} {y1 : Int32} {y2 : Int32} (hf : fX12_findsUsed_35 k2 σ x0 x1 x2 y0 y1 y2 = some (σf, r)) : G MtX12_findsUsed X σ 35 [(0, rv x0), (1, .int x1), (2, .int x2)] [.int y2, .int y1, rv y0] := by
  unfold fX12_findsUsed_35 at hf
  obtain ⟨σ1, eσ1, hf⟩ := ob hf
  refine g_zast dX12_findsUsed_35 eσ1 ?_
  obtain ⟨v2, ev2, hf⟩ := nm_el hf
  refine g_iinc (L' := [(2, .int v2), (0, rv x0), (1, .int x1)]) (j := 2) (v := v2) dX12_findsUsed_36 rfl (by rw [ev2]; rfl) (Nat.le_of_ble_eq_true rfl) rfl ?_
  refine g_goto (tgt := 2) dX12_findsUsed_39 (by decide) ?_
  refine g_sub (L' := [(0, rv x0), (1, .int x1), (2, .int v2)]) [1, 2, 0] rfl ?_
  exact hk2 _ _ _ _ hf

set_option maxRecDepth 100000 in
set_option maxHeartbeats 4000000 in
theorem bX12_findsUsed_34 {X : Xt} {σf : St} {r : Unit} (hX1 : X.2.2.1 = σf) (hX2 : X.2.2.2 = .inl (none)) {k2 : St → Nat → Int32 → Int32 → Option (St × Unit)} (hk2 : ∀ (σ : St) (x0 : Nat) (x1 : Int32) (x2 : Int32), k2 σ x0 x1 x2 = some (σf, r) → G MtX12_findsUsed X σ 2 [(0, rv x0), (1, .int x1), (2, .int x2)] []) {σ : St} {x0 : Nat} {x1 : Int32} {x2 : Int32} {y0 : Nat} {y1 : Int32} (hf : fX12_findsUsed_34 k2 σ x0 x1 x2 y0 y1 = some (σf, r)) : G MtX12_findsUsed X σ 34 [(0, rv x0), (1, .int x1), (2, .int x2)] [.int y1, rv y0] := by
  unfold fX12_findsUsed_34 at hf
  refine g_iconst (v := 0) dX12_findsUsed_34 (by decide) ?_
  exact bX12_findsUsed_35 hX1 hX2 hk2 hf

set_option maxRecDepth 100000 in
set_option maxHeartbeats 4000000 in
theorem bX12_findsUsed_133 {X : Xt} {σf : St} {r : Unit} (hX1 : X.2.2.1 = σf) (hX2 : X.2.2.2 = .inl (none)) {k44 : St → Nat → Int32 → Option (St × Unit)} {k52 : St → Nat → Int32 → Int32 → Option (St × Unit)} (hk44 : ∀ (σ : St) (x0 : Nat) (x2 : Int32), k44 σ x0 x2 = some (σf, r) → G MtX12_findsUsed X σ 44 [(0, rv x0), (2, .int x2)] []) (hk52 : ∀ (σ : St) (x0 : Nat) (x2 : Int32) (x3 : Int32), k52 σ x0 x2 x3 = some (σf, r) → G MtX12_findsUsed X σ 52 [(0, rv x0), (2, .int x2), (3, .int x3)] []) {σ : St} {x0 : Nat} {x2 : Int32} {x3 : Int32} (hf : fX12_findsUsed_133 k44 k52 σ x0 x2 x3 = some (σf, r)) : G MtX12_findsUsed X σ 133 [(0, rv x0), (2, .int x2), (3, .int x3)] [] := by
  unfold fX12_findsUsed_133 at hf
  obtain ⟨v1, ev1, hf⟩ := nm_el hf
  refine g_iinc (L' := [(3, .int v1), (0, rv x0), (2, .int x2)]) (j := 2) (v := v1) dX12_findsUsed_133 rfl (by rw [ev1]; rfl) (Nat.le_of_ble_eq_true rfl) rfl ?_
  refine g_goto (tgt := 52) dX12_findsUsed_136 (by decide) ?_
  refine g_sub (L' := [(0, rv x0), (2, .int x2), (3, .int v1)]) [1, 2, 0] rfl ?_
  exact hk52 _ _ _ _ hf

set_option maxRecDepth 100000 in
set_option maxHeartbeats 4000000 in
theorem bX12_findsUsed_127 {X : Xt} {σf : St} {r : Unit} (hX1 : X.2.2.1 = σf) (hX2 : X.2.2.2 = .inl (none)) {k44 : St → Nat → Int32 → Option (St × Unit)} {k52 : St → Nat → Int32 → Int32 → Option (St × Unit)} {k73 : St → Nat → Int32 → Int32 → Int32 → Option (St × Unit)} (hk44 : ∀ (σ : St) (x0 : Nat) (x2 : Int32), k44 σ x0 x2 = some (σf, r) → G MtX12_findsUsed X σ 44 [(0, rv x0), (2, .int x2)] []) (hk52 : ∀ (σ : St) (x0 : Nat) (x2 : Int32) (x3 : Int32), k52 σ x0 x2 x3 = some (σf, r) → G MtX12_findsUsed X σ 52 [(0, rv x0), (2, .int x2), (3, .int x3)] []) (hk73 : ∀ (σ : St) (x0 : Nat) (x2 : Int32) (x3 : Int32) (x4 : Int32), k73 σ x0 x2 x3 x4 = some (σf, r) → G MtX12_findsUsed X σ 73 [(0, rv x0), (2, .int x2), (3, .int x3), (4, .int x4)] []) {σ : St} {x0 : Nat} {x2 : Int32} {x3 : Int32} {x4 : Int32} (hf : fX12_findsUsed_127 k44 k52 k73 σ x0 x2 x3 x4 = some (σf, r)) : G MtX12_findsUsed X σ 127 [(0, rv x0), (2, .int x2), (3, .int x3), (4, .int x4)] [] := by
  unfold fX12_findsUsed_127 at hf
  obtain ⟨v1, ev1, hf⟩ := nm_el hf
  refine g_iinc (L' := [(4, .int v1), (0, rv x0), (2, .int x2), (3, .int x3)]) (j := 3) (v := v1) dX12_findsUsed_127 rfl (by rw [ev1]; rfl) (Nat.le_of_ble_eq_true rfl) rfl ?_
  refine g_goto (tgt := 73) dX12_findsUsed_130 (by decide) ?_
  refine g_sub (L' := [(0, rv x0), (2, .int x2), (3, .int x3), (4, .int v1)]) [1, 2, 3, 0] rfl ?_
  exact hk73 _ _ _ _ _ hf

set_option maxRecDepth 100000 in
set_option maxHeartbeats 4000000 in
theorem bX12_findsUsed_73 {X : Xt} {σf : St} {r : Unit} (hX1 : X.2.2.1 = σf) (hX2 : X.2.2.2 = .inl (none)) {k44 : St → Nat → Int32 → Option (St × Unit)} {k52 : St → Nat → Int32 → Int32 → Option (St × Unit)} (hk44 : ∀ (σ : St) (x0 : Nat) (x2 : Int32), k44 σ x0 x2 = some (σf, r) → G MtX12_findsUsed X σ 44 [(0, rv x0), (2, .int x2)] []) (hk52 : ∀ (σ : St) (x0 : Nat) (x2 : Int32) (x3 : Int32), k52 σ x0 x2 x3 = some (σf, r) → G MtX12_findsUsed X σ 52 [(0, rv x0), (2, .int x2), (3, .int x3)] []) : ∀ (n : Nat) (σ : St) (x0 : Nat) (x2 : Int32) (x3 : Int32) (x4 : Int32), fX12_findsUsed_73 k44 k52 n σ x0 x2 x3 x4 = some (σf, r) → G MtX12_findsUsed X σ 73 [(0, rv x0), (2, .int x2), (3, .int x3), (4, .int x4)] [] := by
  intro n
  induction n with
  | zero => intro σ x0 x2 x3 x4 hf; cases hf
  | succ n ih =>
    intro σ x0 x2 x3 x4 hf
    rw [fX12_findsUsed_73] at hf
    refine g_iload (j := 3) dX12_findsUsed_73 rfl ?_
    refine g_bipush (v := 30) dX12_findsUsed_75 (by decide) ?_
    refine g_icmp_ge (tgt := 133) dX12_findsUsed_77 (by decide) (fun c1 => ?_) (fun c1 => ?_)
    · rw [if_pos c1] at hf
      refine g_sub (L' := [(0, rv x0), (2, .int x2), (3, .int x3)]) [0, 1, 2] rfl ?_
      exact bX12_findsUsed_133 hX1 hX2 hk44 hk52 hf
    · rw [if_neg c1] at hf
      refine g_aload_n (j := 0) dX12_findsUsed_80 rfl rfl ?_
      refine g_iload (j := 3) dX12_findsUsed_81 rfl ?_
      obtain ⟨_, h4, hf⟩ := ob hf
      obtain ⟨σ2, v3, eσ2, hf⟩ := cb_el hf
      refine g_callV_i dX12_findsUsed_83 (wX12_isThere _ eσ2) (okX12_isThere _ (by decide) (by decide)) (ckK_el h4) hc16 t_2379 t_2381 s_X12_isThere rfl (Nat.le_trans (cat_le _) (Nat.le_of_ble_eq_true rfl)) rfl ?_
      refine g_if_eq (tgt := 127) dX12_findsUsed_86 (by decide) (fun c5 => ?_) (fun c5 => ?_)
      · rw [if_pos c5] at hf
        exact bX12_findsUsed_127 hX1 hX2 hk44 hk52 (fun σ x0 x2 x3 x4 hf => ih σ x0 x2 x3 x4 hf) hf
      · rw [if_neg c5] at hf
        refine g_aload_n (j := 0) dX12_findsUsed_89 rfl rfl ?_
        obtain ⟨v6, ev6, hf⟩ := ob hf
        refine g_getF dX12_findsUsed_90 ev6 t_2009 hin16 hc16 (by decide) rfl ?_
        refine g_iload (j := 3) dX12_findsUsed_93 rfl ?_
        obtain ⟨v7, ev7, hf⟩ := ob hf
        refine g_zald dX12_findsUsed_95 ev7 ?_
        refine g_if_ne (tgt := 127) dX12_findsUsed_96 (by decide) (fun c8 => ?_) (fun c8 => ?_)
        · rw [if_neg c8] at hf
          exact bX12_findsUsed_127 hX1 hX2 hk44 hk52 (fun σ x0 x2 x3 x4 hf => ih σ x0 x2 x3 x4 hf) hf
        · rw [if_pos c8] at hf
          refine g_aload_n (j := 0) dX12_findsUsed_99 rfl rfl ?_
          refine g_aload_n (j := 0) dX12_findsUsed_100 rfl rfl ?_
          obtain ⟨v9, ev9, hf⟩ := ob hf
          refine g_getF dX12_findsUsed_101 ev9 t_2005 hin16 hc16 (by decide) rfl ?_
          refine g_iload_n (j := 2) dX12_findsUsed_104 rfl rfl ?_
          obtain ⟨v10, ev10, hf⟩ := ob hf
          refine g_iald dX12_findsUsed_105 ev10 ?_
          refine g_iload (j := 3) dX12_findsUsed_106 rfl ?_
          obtain ⟨_, h13, hf⟩ := ob hf
          obtain ⟨σ11, v12, eσ11, hf⟩ := cb_el hf
          refine g_callV_i dX12_findsUsed_108 (wX12_hasDirectly _ eσ11) (okX12_hasDirectly _ (by decide) (by decide)) (ckK_el h13) hc16 t_2391 t_2393 s_X12_hasDirectly rfl (Nat.le_trans (cat_le _) (Nat.le_of_ble_eq_true rfl)) rfl ?_
          refine g_if_ne (tgt := 117) dX12_findsUsed_111 (by decide) (fun c14 => ?_) (fun c14 => ?_)
          · rw [if_neg c14] at hf
            refine g_aload_n (j := 0) dX12_findsUsed_117 rfl rfl ?_
            obtain ⟨v15, ev15, hf⟩ := ob hf
            refine g_getF dX12_findsUsed_118 ev15 t_2009 hin16 hc16 (by decide) rfl ?_
            refine g_iload (j := 3) dX12_findsUsed_121 rfl ?_
            refine g_iconst (v := 1) dX12_findsUsed_123 (by decide) ?_
            obtain ⟨σ16, eσ16, hf⟩ := ob hf
            refine g_zast dX12_findsUsed_124 eσ16 ?_
            refine g_iconst (v := 1) dX12_findsUsed_125 (by decide) ?_
            refine g_istore_n (i := 2) (L' := [(2, .int 1), (0, rv x0), (3, .int x3), (4, .int x4)]) dX12_findsUsed_126 rfl (Nat.le_of_ble_eq_true rfl) rfl ?_
            refine g_sub (L' := [(0, rv x0), (2, .int 1), (3, .int x3), (4, .int x4)]) [1, 0, 2, 3] rfl ?_
            exact bX12_findsUsed_127 hX1 hX2 hk44 hk52 (fun σ x0 x2 x3 x4 hf => ih σ x0 x2 x3 x4 hf) hf
          · rw [if_pos c14] at hf
            refine g_goto (tgt := 127) dX12_findsUsed_114 (by decide) ?_
            exact bX12_findsUsed_127 hX1 hX2 hk44 hk52 (fun σ x0 x2 x3 x4 hf => ih σ x0 x2 x3 x4 hf) hf

set_option maxRecDepth 100000 in
set_option maxHeartbeats 4000000 in
theorem bX12_findsUsed_52 {X : Xt} {σf : St} {r : Unit} (hX1 : X.2.2.1 = σf) (hX2 : X.2.2.2 = .inl (none)) {k44 : St → Nat → Int32 → Option (St × Unit)} (hk44 : ∀ (σ : St) (x0 : Nat) (x2 : Int32), k44 σ x0 x2 = some (σf, r) → G MtX12_findsUsed X σ 44 [(0, rv x0), (2, .int x2)] []) : ∀ (n : Nat) (σ : St) (x0 : Nat) (x2 : Int32) (x3 : Int32), fX12_findsUsed_52 k44 n σ x0 x2 x3 = some (σf, r) → G MtX12_findsUsed X σ 52 [(0, rv x0), (2, .int x2), (3, .int x3)] [] := by
  intro n
  induction n with
  | zero => intro σ x0 x2 x3 hf; cases hf
  | succ n ih =>
    intro σ x0 x2 x3 hf
    rw [fX12_findsUsed_52] at hf
    refine g_iload_n (j := 2) dX12_findsUsed_52 rfl rfl ?_
    refine g_bipush (v := 30) dX12_findsUsed_53 (by decide) ?_
    refine g_icmp_ge (tgt := 139) dX12_findsUsed_55 (by decide) (fun c1 => ?_) (fun c1 => ?_)
    · rw [if_pos c1] at hf
      refine g_goto (tgt := 44) dX12_findsUsed_139 (by decide) ?_
      refine g_sub (L' := [(0, rv x0), (2, .int x2)]) [0, 1] rfl ?_
      exact hk44 _ _ _ hf
    · rw [if_neg c1] at hf
      refine g_aload_n (j := 0) dX12_findsUsed_58 rfl rfl ?_
      obtain ⟨v2, ev2, hf⟩ := ob hf
      refine g_getF dX12_findsUsed_59 ev2 t_2009 hin16 hc16 (by decide) rfl ?_
      refine g_iload_n (j := 2) dX12_findsUsed_62 rfl rfl ?_
      obtain ⟨v3, ev3, hf⟩ := ob hf
      refine g_zald dX12_findsUsed_63 ev3 ?_
      refine g_if_ne (tgt := 70) dX12_findsUsed_64 (by decide) (fun c4 => ?_) (fun c4 => ?_)
      · rw [if_neg c4] at hf
        refine g_iconst (v := 0) dX12_findsUsed_70 (by decide) ?_
        refine g_istore (i := 4) (L' := [(4, .int 0), (0, rv x0), (2, .int x2), (3, .int x3)]) dX12_findsUsed_71 (Nat.le_of_ble_eq_true rfl) rfl ?_
        refine g_sub (L' := [(0, rv x0), (2, .int x2), (3, .int x3), (4, .int 0)]) [1, 2, 3, 0] rfl ?_
        exact bX12_findsUsed_73 hX1 hX2 hk44 (fun σ x0 x2 x3 hf => ih σ x0 x2 x3 hf) FU _ _ _ _ _ hf
      · rw [if_pos c4] at hf
        refine g_goto (tgt := 133) dX12_findsUsed_67 (by decide) ?_
        exact bX12_findsUsed_133 hX1 hX2 hk44 (fun σ x0 x2 x3 hf => ih σ x0 x2 x3 hf) hf

set_option maxRecDepth 100000 in
set_option maxHeartbeats 4000000 in
theorem bX12_findsUsed_44 {X : Xt} {σf : St} {r : Unit} (hX1 : X.2.2.1 = σf) (hX2 : X.2.2.2 = .inl (none)) : ∀ (n : Nat) (σ : St) (x0 : Nat) (x2 : Int32), fX12_findsUsed_44 n σ x0 x2 = some (σf, r) → G MtX12_findsUsed X σ 44 [(0, rv x0), (2, .int x2)] [] := by
  intro n
  induction n with
  | zero => intro σ x0 x2 hf; cases hf
  | succ n ih =>
    intro σ x0 x2 hf
    rw [fX12_findsUsed_44] at hf
    refine g_iload_n (j := 1) dX12_findsUsed_44 rfl rfl ?_
    refine g_if_eq (tgt := 142) dX12_findsUsed_45 (by decide) (fun c1 => ?_) (fun c1 => ?_)
    · rw [if_pos c1] at hf
      exact g_vret dX12_findsUsed_142 rfl hX2 hX1 hf
    · rw [if_neg c1] at hf
      refine g_iconst (v := 0) dX12_findsUsed_48 (by decide) ?_
      refine g_istore_n (i := 2) (L' := [(2, .int 0), (0, rv x0)]) dX12_findsUsed_49 rfl (Nat.le_of_ble_eq_true rfl) rfl ?_
      refine g_iconst (v := 0) dX12_findsUsed_50 (by decide) ?_
      refine g_istore_n (i := 3) (L' := [(3, .int 0), (2, .int 0), (0, rv x0)]) dX12_findsUsed_51 rfl (Nat.le_of_ble_eq_true rfl) rfl ?_
      refine g_sub (L' := [(0, rv x0), (2, .int 0), (3, .int 0)]) [2, 1, 0] rfl ?_
      exact bX12_findsUsed_52 hX1 hX2 (fun σ x0 x2 hf => ih σ x0 x2 hf) FU _ _ _ _ hf

set_option maxRecDepth 100000 in
set_option maxHeartbeats 4000000 in
theorem bX12_findsUsed_2 {X : Xt} {σf : St} {r : Unit} (hX1 : X.2.2.1 = σf) (hX2 : X.2.2.2 = .inl (none)) : ∀ (n : Nat) (σ : St) (x0 : Nat) (x1 : Int32) (x2 : Int32), fX12_findsUsed_2 n σ x0 x1 x2 = some (σf, r) → G MtX12_findsUsed X σ 2 [(0, rv x0), (1, .int x1), (2, .int x2)] [] := by
  intro n
  induction n with
  | zero => intro σ x0 x1 x2 hf; cases hf
  | succ n ih =>
    intro σ x0 x1 x2 hf
    rw [fX12_findsUsed_2] at hf
    refine g_iload_n (j := 2) dX12_findsUsed_2 rfl rfl ?_
    refine g_bipush (v := 30) dX12_findsUsed_3 (by decide) ?_
    refine g_icmp_ge (tgt := 42) dX12_findsUsed_5 (by decide) (fun c1 => ?_) (fun c1 => ?_)
    · rw [if_pos c1] at hf
      refine g_iconst (v := 1) dX12_findsUsed_42 (by decide) ?_
      refine g_istore_n (i := 2) (L' := [(2, .int 1), (0, rv x0), (1, .int x1)]) dX12_findsUsed_43 rfl (Nat.le_of_ble_eq_true rfl) rfl ?_
      refine g_sub (L' := [(0, rv x0), (2, .int 1)]) [1, 0] rfl ?_
      exact bX12_findsUsed_44 hX1 hX2 FU _ _ _ hf
    · rw [if_neg c1] at hf
      refine g_aload_n (j := 0) dX12_findsUsed_8 rfl rfl ?_
      obtain ⟨v2, ev2, hf⟩ := ob hf
      refine g_getF dX12_findsUsed_9 ev2 t_2009 hin16 hc16 (by decide) rfl ?_
      refine g_iload_n (j := 2) dX12_findsUsed_12 rfl rfl ?_
      refine g_aload_n (j := 0) dX12_findsUsed_13 rfl rfl ?_
      refine g_iload_n (j := 2) dX12_findsUsed_14 rfl rfl ?_
      obtain ⟨_, h5, hf⟩ := ob hf
      obtain ⟨σ3, v4, eσ3, hf⟩ := cb_el hf
      refine g_callV_i dX12_findsUsed_15 (wX12_isThere _ eσ3) (okX12_isThere _ (by decide) (by decide)) (ckK_el h5) hc16 t_2379 t_2381 s_X12_isThere rfl (Nat.le_trans (cat_le _) (Nat.le_of_ble_eq_true rfl)) rfl ?_
      refine g_if_eq (tgt := 34) dX12_findsUsed_18 (by decide) (fun c6 => ?_) (fun c6 => ?_)
      · rw [if_pos c6] at hf
        exact bX12_findsUsed_34 hX1 hX2 (fun σ x0 x1 x2 hf => ih σ x0 x1 x2 hf) hf
      · rw [if_neg c6] at hf
        refine g_aload_n (j := 0) dX12_findsUsed_21 rfl rfl ?_
        refine g_iload_n (j := 1) dX12_findsUsed_22 rfl rfl ?_
        refine g_iload_n (j := 2) dX12_findsUsed_23 rfl rfl ?_
        obtain ⟨_, h9, hf⟩ := ob hf
        obtain ⟨σ7, v8, eσ7, hf⟩ := cb_el hf
        refine g_callV_i dX12_findsUsed_24 (wX12_hasDirectly _ eσ7) (okX12_hasDirectly _ (by decide) (by decide)) (ckK_el h9) hc16 t_2391 t_2393 s_X12_hasDirectly rfl (Nat.le_trans (cat_le _) (Nat.le_of_ble_eq_true rfl)) rfl ?_
        refine g_if_eq (tgt := 34) dX12_findsUsed_27 (by decide) (fun c10 => ?_) (fun c10 => ?_)
        · rw [if_pos c10] at hf
          exact bX12_findsUsed_34 hX1 hX2 (fun σ x0 x1 x2 hf => ih σ x0 x1 x2 hf) hf
        · rw [if_neg c10] at hf
          refine g_iconst (v := 1) dX12_findsUsed_30 (by decide) ?_
          refine g_goto (tgt := 35) dX12_findsUsed_31 (by decide) ?_
          exact bX12_findsUsed_35 hX1 hX2 (fun σ x0 x1 x2 hf => ih σ x0 x1 x2 hf) hf

set_option maxRecDepth 100000 in
set_option maxHeartbeats 4000000 in
theorem wX12_findsUsed (l : Launch) {σ σf : St} {x0 : Nat} {x1 : Int32} {r : Unit} (hf : fX12_findsUsed σ x0 x1 = some (σf, r)) : Con MtX12_findsUsed yX12_findsUsed l σ [rv x0, .int x1] σf (none) := by
  refine Con.of (by decide +kernel) rfl (fun h => absurd (show false = true from h) (by decide)) (by simp only [sl_n, sl_r, sl_i, sl_l]; exact Nat.le_of_ble_eq_true rfl) ?_
  rw [show lv_args 0 [rv x0, .int x1] = [(0, rv x0), (1, .int x1)] by simp only [la_n, la_r, la_i, la_l] <;> rfl]
  have hX1 : ((l, σ, σf, .inl (none)) : Xt).2.2.1 = σf := rfl
  have hX2 : ((l, σ, σf, .inl (none)) : Xt).2.2.2 = .inl (none) := rfl
  unfold fX12_findsUsed at hf
  refine g_iconst (v := 0) dX12_findsUsed_0 (by decide) ?_
  refine g_istore_n (i := 2) (L' := [(2, .int 0), (0, rv x0), (1, .int x1)]) dX12_findsUsed_1 rfl (Nat.le_of_ble_eq_true rfl) rfl ?_
  refine g_sub (L' := [(0, rv x0), (1, .int x1), (2, .int 0)]) [1, 2, 0] rfl ?_
  exact bX12_findsUsed_2 hX1 hX2 FU _ _ _ _ hf

theorem okX12_findsUsed (M : Mt) (h1 : 2 + 1 ≤ M.2.2.2.2.1) (h2 : 8 + (5 + 11) + 107 ≤ M.2.2.2.2.2.1) : CallOk M MtX12_findsUsed yX12_findsUsed 1 := ⟨t_2390, h1, h2, ⟨by decide, by decide⟩, by decide +kernel, t_16⟩
abbrev MtX12_doesUse : Mt := (cX12_doesUse, 3, "ExactlySaidModel", (Option.some Jvm.ClassFile.FieldType.boolean), 3, 131, false)
set_option maxRecDepth 100000 in
set_option maxHeartbeats 4000000 in
theorem wX12_doesUse (l : Launch) {σ σf : St} {x0 : Nat} {x1 : Int32} {x2 : Int32} {r : Int32} (hf : fX12_doesUse σ x0 x1 x2 = some (σf, r)) : Con MtX12_doesUse yX12_doesUse l σ [rv x0, .int x1, .int x2] σf (some (.int r)) := by
  refine Con.of (by decide +kernel) rfl (fun h => absurd (show false = true from h) (by decide)) (by simp only [sl_n, sl_r, sl_i, sl_l]; exact Nat.le_of_ble_eq_true rfl) ?_
  rw [show lv_args 0 [rv x0, .int x1, .int x2] = [(0, rv x0), (1, .int x1), (2, .int x2)] by simp only [la_n, la_r, la_i, la_l] <;> rfl]
  have hX1 : ((l, σ, σf, .inl (some (.int r))) : Xt).2.2.1 = σf := rfl
  have hX2 : ((l, σ, σf, .inl (some (.int r))) : Xt).2.2.2 = .inl (some (.int r)) := rfl
  unfold fX12_doesUse at hf
  refine g_aload_n (j := 0) dX12_doesUse_0 rfl rfl ?_
  refine g_aload_n (j := 0) dX12_doesUse_1 rfl rfl ?_
  obtain ⟨v1, ev1, hf⟩ := ob hf
  refine g_getF dX12_doesUse_2 ev1 t_2005 hin16 hc16 (by decide) rfl ?_
  refine g_iload_n (j := 1) dX12_doesUse_5 rfl rfl ?_
  obtain ⟨v2, ev2, hf⟩ := ob hf
  refine g_iald dX12_doesUse_6 ev2 ?_
  obtain ⟨_, h5, hf⟩ := ob hf
  obtain ⟨σ3, v4, eσ3, hf⟩ := cb_el hf
  refine g_callV_v dX12_doesUse_7 (wX12_findsUsed _ eσ3) (okX12_findsUsed _ (by decide) (by decide)) (ckK_el h5) hc16 t_2387 t_2389 s_X12_findsUsed rfl (Nat.le_trans (cat_le _) (Nat.le_of_ble_eq_true rfl)) rfl ?_
  refine g_aload_n (j := 0) dX12_doesUse_10 rfl rfl ?_
  obtain ⟨v6, ev6, hf⟩ := ob hf
  refine g_getF dX12_doesUse_11 ev6 t_2009 hin16 hc16 (by decide) rfl ?_
  refine g_iload_n (j := 2) dX12_doesUse_14 rfl rfl ?_
  obtain ⟨v7, ev7, hf⟩ := ob hf
  refine g_zald dX12_doesUse_15 ev7 ?_
  obtain ⟨_, h8, hf⟩ := ob hf
  exact g_iret dX12_doesUse_16 rfl (ckZ_el h8) hX2 hX1 hf

theorem okX12_doesUse (M : Mt) (h1 : 3 + 1 ≤ M.2.2.2.2.1) (h2 : 8 + (3 + 11) + 131 ≤ M.2.2.2.2.2.1) : CallOk M MtX12_doesUse yX12_doesUse 2 := ⟨t_2386, h1, h2, ⟨by decide, by decide⟩, by decide +kernel, t_16⟩
abbrev MtX12_users : Mt := (cX12_users, 4, "ExactlySaidModel", (Option.some Jvm.ClassFile.FieldType.int), 4, 153, false)
set_option maxRecDepth 100000 in
set_option maxHeartbeats 4000000 in
theorem bX12_users_38 {X : Xt} {σf : St} {r : Int32} (hX1 : X.2.2.1 = σf) (hX2 : X.2.2.2 = .inl (some (.int r))) {k4 : St → Nat → Int32 → Int32 → Int32 → Option (St × Int32)} (hk4 : ∀ (σ : St) (x0 : Nat) (x1 : Int32) (x2 : Int32) (x3 : Int32), k4 σ x0 x1 x2 x3 = some (σf, r) → G MtX12_users X σ 4 [(0, rv x0), (1, .int x1), (2, .int x2), (3, .int x3)] []) {σ : St} {x0 : Nat} {x1 : Int32} {x3 : Int32} {y0 : Int32} {y1 : Int32} (hf : fX12_users_38 k4 σ x0 x1 x3 y0 y1 = some (σf, r)) : G MtX12_users X σ 38 [(0, rv x0), (1, .int x1), (3, .int x3)] [.int y1, .int y0] := by
  unfold fX12_users_38 at hf
  refine g_iadd dX12_users_38 ?_
  obtain ⟨v1, ev1, hf⟩ := nm_el hf
  refine g_topI ev1 ?_
  refine g_istore_n (i := 2) (L' := [(2, .int v1), (0, rv x0), (1, .int x1), (3, .int x3)]) dX12_users_39 rfl (Nat.le_of_ble_eq_true rfl) rfl ?_
  obtain ⟨v2, ev2, hf⟩ := nm_el hf
  refine g_iinc (L' := [(3, .int v2), (2, .int v1), (0, rv x0), (1, .int x1)]) (j := 3) (v := v2) dX12_users_40 rfl (by rw [ev2]; rfl) (Nat.le_of_ble_eq_true rfl) rfl ?_
  refine g_goto (tgt := 4) dX12_users_43 (by decide) ?_
  refine g_sub (L' := [(0, rv x0), (1, .int x1), (2, .int v1), (3, .int v2)]) [2, 3, 1, 0] rfl ?_
  exact hk4 _ _ _ _ _ hf

set_option maxRecDepth 100000 in
set_option maxHeartbeats 4000000 in
theorem bX12_users_37 {X : Xt} {σf : St} {r : Int32} (hX1 : X.2.2.1 = σf) (hX2 : X.2.2.2 = .inl (some (.int r))) {k4 : St → Nat → Int32 → Int32 → Int32 → Option (St × Int32)} (hk4 : ∀ (σ : St) (x0 : Nat) (x1 : Int32) (x2 : Int32) (x3 : Int32), k4 σ x0 x1 x2 x3 = some (σf, r) → G MtX12_users X σ 4 [(0, rv x0), (1, .int x1), (2, .int x2), (3, .int x3)] []) {σ : St} {x0 : Nat} {x1 : Int32} {x3 : Int32} {y0 : Int32} (hf : fX12_users_37 k4 σ x0 x1 x3 y0 = some (σf, r)) : G MtX12_users X σ 37 [(0, rv x0), (1, .int x1), (3, .int x3)] [.int y0] := by
  unfold fX12_users_37 at hf
  refine g_iconst (v := 0) dX12_users_37 (by decide) ?_
  exact bX12_users_38 hX1 hX2 hk4 hf

set_option maxRecDepth 100000 in
set_option maxHeartbeats 4000000 in
theorem bX12_users_4 {X : Xt} {σf : St} {r : Int32} (hX1 : X.2.2.1 = σf) (hX2 : X.2.2.2 = .inl (some (.int r))) : ∀ (n : Nat) (σ : St) (x0 : Nat) (x1 : Int32) (x2 : Int32) (x3 : Int32), fX12_users_4 n σ x0 x1 x2 x3 = some (σf, r) → G MtX12_users X σ 4 [(0, rv x0), (1, .int x1), (2, .int x2), (3, .int x3)] [] := by
  intro n
  induction n with
  | zero => intro σ x0 x1 x2 x3 hf; cases hf
  | succ n ih =>
    intro σ x0 x1 x2 x3 hf
    rw [fX12_users_4] at hf
    refine g_iload_n (j := 3) dX12_users_4 rfl rfl ?_
    refine g_bipush (v := 30) dX12_users_5 (by decide) ?_
    refine g_icmp_ge (tgt := 46) dX12_users_7 (by decide) (fun c1 => ?_) (fun c1 => ?_)
    · rw [if_pos c1] at hf
      refine g_iload_n (j := 2) dX12_users_46 rfl rfl ?_
      exact g_iret dX12_users_47 rfl rfl hX2 hX1 hf
    · rw [if_neg c1] at hf
      refine g_iload_n (j := 2) dX12_users_10 rfl rfl ?_
      refine g_iload_n (j := 3) dX12_users_11 rfl rfl ?_
      refine g_iload_n (j := 1) dX12_users_12 rfl rfl ?_
      refine g_icmp_eq (tgt := 37) dX12_users_13 (by decide) (fun c2 => ?_) (fun c2 => ?_)
      · rw [if_pos c2] at hf
        refine g_sub (L' := [(0, rv x0), (1, .int x1), (3, .int x3)]) [0, 1, 3] rfl ?_
        exact bX12_users_37 hX1 hX2 (fun σ x0 x1 x2 x3 hf => ih σ x0 x1 x2 x3 hf) hf
      · rw [if_neg c2] at hf
        refine g_aload_n (j := 0) dX12_users_16 rfl rfl ?_
        refine g_iload_n (j := 3) dX12_users_17 rfl rfl ?_
        obtain ⟨_, h5, hf⟩ := ob hf
        obtain ⟨σ3, v4, eσ3, hf⟩ := cb_el hf
        refine g_callV_i dX12_users_18 (wX12_isThere _ eσ3) (okX12_isThere _ (by decide) (by decide)) (ckK_el h5) hc16 t_2379 t_2381 s_X12_isThere rfl (Nat.le_trans (cat_le _) (Nat.le_of_ble_eq_true rfl)) rfl ?_
        refine g_if_eq (tgt := 37) dX12_users_21 (by decide) (fun c6 => ?_) (fun c6 => ?_)
        · rw [if_pos c6] at hf
          refine g_sub (L' := [(0, rv x0), (1, .int x1), (3, .int x3)]) [0, 1, 3] rfl ?_
          exact bX12_users_37 hX1 hX2 (fun σ x0 x1 x2 x3 hf => ih σ x0 x1 x2 x3 hf) hf
        · rw [if_neg c6] at hf
          refine g_aload_n (j := 0) dX12_users_24 rfl rfl ?_
          refine g_iload_n (j := 3) dX12_users_25 rfl rfl ?_
          refine g_iload_n (j := 1) dX12_users_26 rfl rfl ?_
          obtain ⟨_, h9, hf⟩ := ob hf
          obtain ⟨σ7, v8, eσ7, hf⟩ := cb_el hf
          refine g_callV_i dX12_users_27 (wX12_doesUse _ eσ7) (okX12_doesUse _ (by decide) (by decide)) (ckK_el h9) hc16 t_2383 t_2385 s_X12_doesUse rfl (Nat.le_trans (cat_le _) (Nat.le_of_ble_eq_true rfl)) rfl ?_
          refine g_if_eq (tgt := 37) dX12_users_30 (by decide) (fun c10 => ?_) (fun c10 => ?_)
          · rw [if_pos c10] at hf
            refine g_sub (L' := [(0, rv x0), (1, .int x1), (3, .int x3)]) [0, 1, 3] rfl ?_
            exact bX12_users_37 hX1 hX2 (fun σ x0 x1 x2 x3 hf => ih σ x0 x1 x2 x3 hf) hf
          · rw [if_neg c10] at hf
            refine g_iconst (v := 1) dX12_users_33 (by decide) ?_
            refine g_goto (tgt := 38) dX12_users_34 (by decide) ?_
            refine g_sub (L' := [(0, rv x0), (1, .int x1), (3, .int x3)]) [0, 1, 3] rfl ?_
            exact bX12_users_38 hX1 hX2 (fun σ x0 x1 x2 x3 hf => ih σ x0 x1 x2 x3 hf) hf

set_option maxRecDepth 100000 in
set_option maxHeartbeats 4000000 in
theorem wX12_users (l : Launch) {σ σf : St} {x0 : Nat} {x1 : Int32} {r : Int32} (hf : fX12_users σ x0 x1 = some (σf, r)) : Con MtX12_users yX12_users l σ [rv x0, .int x1] σf (some (.int r)) := by
  refine Con.of (by decide +kernel) rfl (fun h => absurd (show false = true from h) (by decide)) (by simp only [sl_n, sl_r, sl_i, sl_l]; exact Nat.le_of_ble_eq_true rfl) ?_
  rw [show lv_args 0 [rv x0, .int x1] = [(0, rv x0), (1, .int x1)] by simp only [la_n, la_r, la_i, la_l] <;> rfl]
  have hX1 : ((l, σ, σf, .inl (some (.int r))) : Xt).2.2.1 = σf := rfl
  have hX2 : ((l, σ, σf, .inl (some (.int r))) : Xt).2.2.2 = .inl (some (.int r)) := rfl
  unfold fX12_users at hf
  refine g_iconst (v := 0) dX12_users_0 (by decide) ?_
  refine g_istore_n (i := 2) (L' := [(2, .int 0), (0, rv x0), (1, .int x1)]) dX12_users_1 rfl (Nat.le_of_ble_eq_true rfl) rfl ?_
  refine g_iconst (v := 0) dX12_users_2 (by decide) ?_
  refine g_istore_n (i := 3) (L' := [(3, .int 0), (2, .int 0), (0, rv x0), (1, .int x1)]) dX12_users_3 rfl (Nat.le_of_ble_eq_true rfl) rfl ?_
  refine g_sub (L' := [(0, rv x0), (1, .int x1), (2, .int 0), (3, .int 0)]) [2, 3, 1, 0] rfl ?_
  exact bX12_users_4 hX1 hX2 FU _ _ _ _ _ hf

theorem okX12_users (M : Mt) (h1 : 4 + 1 ≤ M.2.2.2.2.1) (h2 : 8 + (4 + 11) + 153 ≤ M.2.2.2.2.2.1) : CallOk M MtX12_users yX12_users 1 := ⟨t_2378, h1, h2, ⟨by decide, by decide⟩, by decide +kernel, t_16⟩
abbrev MtX12_orderOf : Mt := (cX12_orderOf, 2, "ExactlySaidModel", (Option.some Jvm.ClassFile.FieldType.int), 1, 84, false)
set_option maxRecDepth 100000 in
set_option maxHeartbeats 4000000 in
theorem bX12_orderOf_2 {X : Xt} {σf : St} {r : Int32} (hX1 : X.2.2.1 = σf) (hX2 : X.2.2.2 = .inl (some (.int r))) : ∀ (n : Nat) (σ : St) (x1 : Int32), fX12_orderOf_2 n σ x1 = some (σf, r) → G MtX12_orderOf X σ 2 [(1, .int x1)] [] := by
  intro n
  induction n with
  | zero => intro σ x1 hf; cases hf
  | succ n ih =>
    intro σ x1 hf
    rw [fX12_orderOf_2] at hf
    refine g_iload_n (j := 0) dX12_orderOf_2 rfl rfl ?_
    refine g_ldcw (v := 14348907) dX12_orderOf_3 t_2402 ?_
    refine g_icmp_ge (tgt := 17) dX12_orderOf_6 (by decide) (fun c1 => ?_) (fun c1 => ?_)
    · rw [if_pos c1] at hf
      refine g_iload_n (j := 0) dX12_orderOf_17 rfl rfl ?_
      exact g_iret dX12_orderOf_18 rfl rfl hX2 hX1 hf
    · rw [if_neg c1] at hf
      refine g_iload_n (j := 0) dX12_orderOf_9 rfl rfl ?_
      refine g_bipush (v := 27) dX12_orderOf_10 (by decide) ?_
      refine g_imul dX12_orderOf_12 ?_
      obtain ⟨v2, ev2, hf⟩ := nm_el hf
      refine g_topI ev2 ?_
      refine g_istore_n (i := 1) (L' := [(1, .int v2)]) dX12_orderOf_13 rfl (Nat.le_of_ble_eq_true rfl) rfl ?_
      refine g_goto (tgt := 2) dX12_orderOf_14 (by decide) ?_
      exact ih _ _ hf

set_option maxRecDepth 100000 in
set_option maxHeartbeats 4000000 in
theorem wX12_orderOf (l : Launch) {σ σf : St} {x0 : Int32} {r : Int32} (hf : fX12_orderOf σ x0 = some (σf, r)) : Con MtX12_orderOf yX12_orderOf l σ [.int x0] σf (some (.int r)) := by
  refine Con.of (by decide +kernel) rfl (fun h => absurd (show false = true from h) (by decide)) (by simp only [sl_n, sl_r, sl_i, sl_l]; exact Nat.le_of_ble_eq_true rfl) ?_
  rw [show lv_args 0 [.int x0] = [(0, .int x0)] by simp only [la_n, la_r, la_i, la_l] <;> rfl]
  have hX1 : ((l, σ, σf, .inl (some (.int r))) : Xt).2.2.1 = σf := rfl
  have hX2 : ((l, σ, σf, .inl (some (.int r))) : Xt).2.2.2 = .inl (some (.int r)) := rfl
  unfold fX12_orderOf at hf
  refine g_iload_n (j := 0) dX12_orderOf_0 rfl rfl ?_
  refine g_istore_n (i := 1) (L' := [(1, .int x0), (0, .int x0)]) dX12_orderOf_1 rfl (Nat.le_of_ble_eq_true rfl) rfl ?_
  refine g_sub (L' := [(1, .int x0)]) [0] rfl ?_
  exact bX12_orderOf_2 hX1 hX2 FU _ _ hf

theorem okX12_orderOf (M : Mt) (h1 : 1 + 1 ≤ M.2.2.2.2.1) (h2 : 8 + (2 + 11) + 84 ≤ M.2.2.2.2.2.1) : CallOk M MtX12_orderOf yX12_orderOf 1 := ⟨t_2401, h1, h2, ⟨by decide, by decide⟩, by decide +kernel, t_16⟩
abbrev MtX12_leads : Mt := (cX12_leads, 6, "ExactlySaidModel", (Option.some Jvm.ClassFile.FieldType.int), 4, 153, false)
set_option maxRecDepth 100000 in
set_option maxHeartbeats 4000000 in
theorem bX12_leads_118 {X : Xt} {σf : St} {r : Int32} (hX1 : X.2.2.1 = σf) (hX2 : X.2.2.2 = .inl (some (.int r))) {k5 : St → Nat → Int32 → Int32 → Int32 → Int32 → Option (St × Int32)} (hk5 : ∀ (σ : St) (x0 : Nat) (x1 : Int32) (x2 : Int32) (x3 : Int32) (x4 : Int32), k5 σ x0 x1 x2 x3 x4 = some (σf, r) → G MtX12_leads X σ 5 [(0, rv x0), (1, .int x1), (2, .int x2), (3, .int x3), (4, .int x4)] []) {σ : St} {x0 : Nat} {x1 : Int32} {x2 : Int32} {x3 : Int32} {x4 : Int32} (hf : fX12_leads_118 k5 σ x0 x1 x2 x3 x4 = some (σf, r)) : G MtX12_leads X σ 118 [(0, rv x0), (1, .int x1), (2, .int x2), (3, .int x3), (4, .int x4)] [] := by
  unfold fX12_leads_118 at hf
  obtain ⟨v1, ev1, hf⟩ := nm_el hf
  refine g_iinc (L' := [(4, .int v1), (0, rv x0), (1, .int x1), (2, .int x2), (3, .int x3)]) (j := 4) (v := v1) dX12_leads_118 rfl (by rw [ev1]; rfl) (Nat.le_of_ble_eq_true rfl) rfl ?_
  refine g_goto (tgt := 5) dX12_leads_121 (by decide) ?_
  refine g_sub (L' := [(0, rv x0), (1, .int x1), (2, .int x2), (3, .int x3), (4, .int v1)]) [1, 2, 3, 4, 0] rfl ?_
  exact hk5 _ _ _ _ _ _ hf

set_option maxRecDepth 100000 in
set_option maxHeartbeats 4000000 in
theorem bX12_leads_108 {X : Xt} {σf : St} {r : Int32} (hX1 : X.2.2.1 = σf) (hX2 : X.2.2.2 = .inl (some (.int r))) {k5 : St → Nat → Int32 → Int32 → Int32 → Int32 → Option (St × Int32)} (hk5 : ∀ (σ : St) (x0 : Nat) (x1 : Int32) (x2 : Int32) (x3 : Int32) (x4 : Int32), k5 σ x0 x1 x2 x3 x4 = some (σf, r) → G MtX12_leads X σ 5 [(0, rv x0), (1, .int x1), (2, .int x2), (3, .int x3), (4, .int x4)] []) {σ : St} {x0 : Nat} {x1 : Int32} {x2 : Int32} {x3 : Int32} {x4 : Int32} {y0 : Int32} (hf : fX12_leads_108 k5 σ x0 x1 x2 x3 x4 y0 = some (σf, r)) : G MtX12_leads X σ 108 [(0, rv x0), (1, .int x1), (2, .int x2), (3, .int x3), (4, .int x4)] [.int y0] := by
  unfold fX12_leads_108 at hf
  refine g_istore (i := 5) (L' := [(5, .int y0), (0, rv x0), (1, .int x1), (2, .int x2), (3, .int x3), (4, .int x4)]) dX12_leads_108 (Nat.le_of_ble_eq_true rfl) rfl ?_
  refine g_iload (j := 0) dX12_leads_110 rfl ?_
  refine g_if_eq (tgt := 118) dX12_leads_112 (by decide) (fun c1 => ?_) (fun c1 => ?_)
  · rw [if_pos c1] at hf
    refine g_sub (L' := [(0, rv x0), (1, .int x1), (2, .int x2), (3, .int x3), (4, .int x4)]) [1, 2, 3, 4, 5] rfl ?_
    exact bX12_leads_118 hX1 hX2 hk5 hf
  · rw [if_neg c1] at hf
    refine g_iload (j := 5) dX12_leads_115 rfl ?_
    refine g_istore_n (i := 3) (L' := [(3, .int x4), (5, .int y0), (0, rv x0), (1, .int x1), (2, .int x2), (4, .int x4)]) dX12_leads_117 rfl (Nat.le_of_ble_eq_true rfl) rfl ?_
    refine g_sub (L' := [(0, rv x0), (1, .int x1), (2, .int x2), (3, .int x4), (4, .int x4)]) [2, 3, 4, 0, 5] rfl ?_
    exact bX12_leads_118 hX1 hX2 hk5 hf

set_option maxRecDepth 100000 in
set_option maxHeartbeats 4000000 in
theorem bX12_leads_103 {X : Xt} {σf : St} {r : Int32} (hX1 : X.2.2.1 = σf) (hX2 : X.2.2.2 = .inl (some (.int r))) {k5 : St → Nat → Int32 → Int32 → Int32 → Int32 → Option (St × Int32)} (hk5 : ∀ (σ : St) (x0 : Nat) (x1 : Int32) (x2 : Int32) (x3 : Int32) (x4 : Int32), k5 σ x0 x1 x2 x3 x4 = some (σf, r) → G MtX12_leads X σ 5 [(0, rv x0), (1, .int x1), (2, .int x2), (3, .int x3), (4, .int x4)] []) {σ : St} {x0 : Nat} {x1 : Int32} {x2 : Int32} {x3 : Int32} {x4 : Int32} (hf : fX12_leads_103 k5 σ x0 x1 x2 x3 x4 = some (σf, r)) : G MtX12_leads X σ 103 [(0, rv x0), (1, .int x1), (2, .int x2), (3, .int x3), (4, .int x4)] [] := by
  unfold fX12_leads_103 at hf
  refine g_iconst (v := 1) dX12_leads_103 (by decide) ?_
  refine g_goto (tgt := 108) dX12_leads_104 (by decide) ?_
  exact bX12_leads_108 hX1 hX2 hk5 hf

set_option maxRecDepth 100000 in
set_option maxHeartbeats 4000000 in
theorem bX12_leads_107 {X : Xt} {σf : St} {r : Int32} (hX1 : X.2.2.1 = σf) (hX2 : X.2.2.2 = .inl (some (.int r))) {k5 : St → Nat → Int32 → Int32 → Int32 → Int32 → Option (St × Int32)} (hk5 : ∀ (σ : St) (x0 : Nat) (x1 : Int32) (x2 : Int32) (x3 : Int32) (x4 : Int32), k5 σ x0 x1 x2 x3 x4 = some (σf, r) → G MtX12_leads X σ 5 [(0, rv x0), (1, .int x1), (2, .int x2), (3, .int x3), (4, .int x4)] []) {σ : St} {x0 : Nat} {x1 : Int32} {x2 : Int32} {x3 : Int32} {x4 : Int32} (hf : fX12_leads_107 k5 σ x0 x1 x2 x3 x4 = some (σf, r)) : G MtX12_leads X σ 107 [(0, rv x0), (1, .int x1), (2, .int x2), (3, .int x3), (4, .int x4)] [] := by
  unfold fX12_leads_107 at hf
  refine g_iconst (v := 0) dX12_leads_107 (by decide) ?_
  exact bX12_leads_108 hX1 hX2 hk5 hf

set_option maxRecDepth 100000 in
set_option maxHeartbeats 4000000 in
theorem bX12_leads_78 {X : Xt} {σf : St} {r : Int32} (hX1 : X.2.2.1 = σf) (hX2 : X.2.2.2 = .inl (some (.int r))) {k5 : St → Nat → Int32 → Int32 → Int32 → Int32 → Option (St × Int32)} (hk5 : ∀ (σ : St) (x0 : Nat) (x1 : Int32) (x2 : Int32) (x3 : Int32) (x4 : Int32), k5 σ x0 x1 x2 x3 x4 = some (σf, r) → G MtX12_leads X σ 5 [(0, rv x0), (1, .int x1), (2, .int x2), (3, .int x3), (4, .int x4)] []) {σ : St} {x0 : Nat} {x1 : Int32} {x2 : Int32} {x3 : Int32} {x4 : Int32} {y0 : Int32} {y1 : Int32} (hf : fX12_leads_78 k5 σ x0 x1 x2 x3 x4 y0 y1 = some (σf, r)) : G MtX12_leads X σ 78 [(0, rv x0), (1, .int x1), (2, .int x2), (3, .int x3), (4, .int x4)] [.int y1, .int y0] := by
  unfold fX12_leads_78 at hf
  refine g_icmp_ne (tgt := 107) dX12_leads_78 (by decide) (fun c1 => ?_) (fun c1 => ?_)
  · rw [if_neg c1] at hf
    exact bX12_leads_107 hX1 hX2 hk5 hf
  · rw [if_pos c1] at hf
    refine g_aload_n (j := 0) dX12_leads_81 rfl rfl ?_
    obtain ⟨v2, ev2, hf⟩ := ob hf
    refine g_getF dX12_leads_82 ev2 t_2004 hin16 hc16 (by decide) rfl ?_
    refine g_iload (j := 4) dX12_leads_85 rfl ?_
    obtain ⟨v3, ev3, hf⟩ := ob hf
    refine g_iald dX12_leads_87 ev3 ?_
    obtain ⟨σ4, v5, eσ4, hf⟩ := cb_el hf
    refine g_callS_i dX12_leads_88 (wX12_orderOf _ eσ4) (okX12_orderOf _ (by decide) (by decide)) t_2399 t_2400 rfl (Nat.le_trans (cat_le _) (Nat.le_of_ble_eq_true rfl)) rfl ?_
    refine g_aload_n (j := 0) dX12_leads_91 rfl rfl ?_
    obtain ⟨v6, ev6, hf⟩ := ob hf
    refine g_getF dX12_leads_92 ev6 t_2004 hin16 hc16 (by decide) rfl ?_
    refine g_iload_n (j := 3) dX12_leads_95 rfl rfl ?_
    obtain ⟨v7, ev7, hf⟩ := ob hf
    refine g_iald dX12_leads_96 ev7 ?_
    obtain ⟨σ8, v9, eσ8, hf⟩ := cb_el hf
    refine g_callS_i dX12_leads_97 (wX12_orderOf _ eσ8) (okX12_orderOf _ (by decide) (by decide)) t_2399 t_2400 rfl (Nat.le_trans (cat_le _) (Nat.le_of_ble_eq_true rfl)) rfl ?_
    refine g_icmp_ge (tgt := 107) dX12_leads_100 (by decide) (fun c10 => ?_) (fun c10 => ?_)
    · rw [if_pos c10] at hf
      exact bX12_leads_107 hX1 hX2 hk5 hf
    · rw [if_neg c10] at hf
      exact bX12_leads_103 hX1 hX2 hk5 hf

set_option maxRecDepth 100000 in
set_option maxHeartbeats 4000000 in
theorem bX12_leads_67 {X : Xt} {σf : St} {r : Int32} (hX1 : X.2.2.1 = σf) (hX2 : X.2.2.2 = .inl (some (.int r))) {k5 : St → Nat → Int32 → Int32 → Int32 → Int32 → Option (St × Int32)} (hk5 : ∀ (σ : St) (x0 : Nat) (x1 : Int32) (x2 : Int32) (x3 : Int32) (x4 : Int32), k5 σ x0 x1 x2 x3 x4 = some (σf, r) → G MtX12_leads X σ 5 [(0, rv x0), (1, .int x1), (2, .int x2), (3, .int x3), (4, .int x4)] []) {σ : St} {x0 : Nat} {x1 : Int32} {x2 : Int32} {x3 : Int32} {x4 : Int32} {y0 : Int32} (hf : fX12_leads_67 k5 σ x0 x1 x2 x3 x4 y0 = some (σf, r)) : G MtX12_leads X σ 67 [(0, rv x0), (1, .int x1), (2, .int x2), (3, .int x3), (4, .int x4)] [.int y0] := by
  unfold fX12_leads_67 at hf
  refine g_iload_n (j := 3) dX12_leads_67 rfl rfl ?_
  refine g_bipush (v := 20) dX12_leads_68 (by decide) ?_
  refine g_icmp_ge (tgt := 77) dX12_leads_70 (by decide) (fun c1 => ?_) (fun c1 => ?_)
  · rw [if_pos c1] at hf
    refine g_iconst (v := 0) dX12_leads_77 (by decide) ?_
    exact bX12_leads_78 hX1 hX2 hk5 hf
  · rw [if_neg c1] at hf
    refine g_iconst (v := 1) dX12_leads_73 (by decide) ?_
    refine g_goto (tgt := 78) dX12_leads_74 (by decide) ?_
    exact bX12_leads_78 hX1 hX2 hk5 hf

set_option maxRecDepth 100000 in
set_option maxHeartbeats 4000000 in
theorem bX12_leads_50 {X : Xt} {σf : St} {r : Int32} (hX1 : X.2.2.1 = σf) (hX2 : X.2.2.2 = .inl (some (.int r))) {k5 : St → Nat → Int32 → Int32 → Int32 → Int32 → Option (St × Int32)} (hk5 : ∀ (σ : St) (x0 : Nat) (x1 : Int32) (x2 : Int32) (x3 : Int32) (x4 : Int32), k5 σ x0 x1 x2 x3 x4 = some (σf, r) → G MtX12_leads X σ 5 [(0, rv x0), (1, .int x1), (2, .int x2), (3, .int x3), (4, .int x4)] []) {σ : St} {x0 : Nat} {x1 : Int32} {x2 : Int32} {x3 : Int32} {x4 : Int32} (hf : fX12_leads_50 k5 σ x0 x1 x2 x3 x4 = some (σf, r)) : G MtX12_leads X σ 50 [(0, rv x0), (1, .int x1), (2, .int x2), (3, .int x3), (4, .int x4)] [] := by
  unfold fX12_leads_50 at hf
  refine g_iload_n (j := 3) dX12_leads_50 rfl rfl ?_
  refine g_iconst (v := (-1)) dX12_leads_51 (by decide) ?_
  refine g_icmp_eq (tgt := 103) dX12_leads_52 (by decide) (fun c1 => ?_) (fun c1 => ?_)
  · rw [if_pos c1] at hf
    exact bX12_leads_103 hX1 hX2 hk5 hf
  · rw [if_neg c1] at hf
    refine g_iload (j := 4) dX12_leads_55 rfl ?_
    refine g_bipush (v := 20) dX12_leads_57 (by decide) ?_
    refine g_icmp_ge (tgt := 66) dX12_leads_59 (by decide) (fun c2 => ?_) (fun c2 => ?_)
    · rw [if_pos c2] at hf
      refine g_iconst (v := 0) dX12_leads_66 (by decide) ?_
      exact bX12_leads_67 hX1 hX2 hk5 hf
    · rw [if_neg c2] at hf
      refine g_iconst (v := 1) dX12_leads_62 (by decide) ?_
      refine g_goto (tgt := 67) dX12_leads_63 (by decide) ?_
      exact bX12_leads_67 hX1 hX2 hk5 hf

set_option maxRecDepth 100000 in
set_option maxHeartbeats 4000000 in
theorem bX12_leads_5 {X : Xt} {σf : St} {r : Int32} (hX1 : X.2.2.1 = σf) (hX2 : X.2.2.2 = .inl (some (.int r))) : ∀ (n : Nat) (σ : St) (x0 : Nat) (x1 : Int32) (x2 : Int32) (x3 : Int32) (x4 : Int32), fX12_leads_5 n σ x0 x1 x2 x3 x4 = some (σf, r) → G MtX12_leads X σ 5 [(0, rv x0), (1, .int x1), (2, .int x2), (3, .int x3), (4, .int x4)] [] := by
  intro n
  induction n with
  | zero => intro σ x0 x1 x2 x3 x4 hf; cases hf
  | succ n ih =>
    intro σ x0 x1 x2 x3 x4 hf
    rw [fX12_leads_5] at hf
    refine g_iload (j := 4) dX12_leads_5 rfl ?_
    refine g_bipush (v := 30) dX12_leads_7 (by decide) ?_
    refine g_icmp_ge (tgt := 124) dX12_leads_9 (by decide) (fun c1 => ?_) (fun c1 => ?_)
    · rw [if_pos c1] at hf
      refine g_iload_n (j := 3) dX12_leads_124 rfl rfl ?_
      exact g_iret dX12_leads_125 rfl rfl hX2 hX1 hf
    · rw [if_neg c1] at hf
      refine g_aload_n (j := 0) dX12_leads_12 rfl rfl ?_
      refine g_iload (j := 4) dX12_leads_13 rfl ?_
      obtain ⟨_, h4, hf⟩ := ob hf
      obtain ⟨σ2, v3, eσ2, hf⟩ := cb_el hf
      refine g_callV_i dX12_leads_15 (wX12_isThere _ eσ2) (okX12_isThere _ (by decide) (by decide)) (ckK_el h4) hc16 t_2379 t_2381 s_X12_isThere rfl (Nat.le_trans (cat_le _) (Nat.le_of_ble_eq_true rfl)) rfl ?_
      refine g_if_eq (tgt := 118) dX12_leads_18 (by decide) (fun c5 => ?_) (fun c5 => ?_)
      · rw [if_pos c5] at hf
        exact bX12_leads_118 hX1 hX2 (fun σ x0 x1 x2 x3 x4 hf => ih σ x0 x1 x2 x3 x4 hf) hf
      · rw [if_neg c5] at hf
        refine g_aload_n (j := 0) dX12_leads_21 rfl rfl ?_
        refine g_iload_n (j := 1) dX12_leads_22 rfl rfl ?_
        refine g_iload (j := 4) dX12_leads_23 rfl ?_
        obtain ⟨_, h8, hf⟩ := ob hf
        obtain ⟨σ6, v7, eσ6, hf⟩ := cb_el hf
        refine g_callV_i dX12_leads_25 (wX12_hasDirectly _ eσ6) (okX12_hasDirectly _ (by decide) (by decide)) (ckK_el h8) hc16 t_2391 t_2393 s_X12_hasDirectly rfl (Nat.le_trans (cat_le _) (Nat.le_of_ble_eq_true rfl)) rfl ?_
        refine g_if_eq (tgt := 118) dX12_leads_28 (by decide) (fun c9 => ?_) (fun c9 => ?_)
        · rw [if_pos c9] at hf
          exact bX12_leads_118 hX1 hX2 (fun σ x0 x1 x2 x3 x4 hf => ih σ x0 x1 x2 x3 x4 hf) hf
        · rw [if_neg c9] at hf
          refine g_iload (j := 4) dX12_leads_31 rfl ?_
          refine g_iload_n (j := 2) dX12_leads_33 rfl rfl ?_
          refine g_icmp_eq (tgt := 50) dX12_leads_34 (by decide) (fun c10 => ?_) (fun c10 => ?_)
          · rw [if_pos c10] at hf
            exact bX12_leads_50 hX1 hX2 (fun σ x0 x1 x2 x3 x4 hf => ih σ x0 x1 x2 x3 x4 hf) hf
          · rw [if_neg c10] at hf
            refine g_aload_n (j := 0) dX12_leads_37 rfl rfl ?_
            refine g_iload (j := 4) dX12_leads_38 rfl ?_
            refine g_iload_n (j := 2) dX12_leads_40 rfl rfl ?_
            obtain ⟨_, h13, hf⟩ := ob hf
            obtain ⟨σ11, v12, eσ11, hf⟩ := cb_el hf
            refine g_callV_i dX12_leads_41 (wX12_doesUse _ eσ11) (okX12_doesUse _ (by decide) (by decide)) (ckK_el h13) hc16 t_2383 t_2385 s_X12_doesUse rfl (Nat.le_trans (cat_le _) (Nat.le_of_ble_eq_true rfl)) rfl ?_
            refine g_if_ne (tgt := 50) dX12_leads_44 (by decide) (fun c14 => ?_) (fun c14 => ?_)
            · rw [if_neg c14] at hf
              exact bX12_leads_50 hX1 hX2 (fun σ x0 x1 x2 x3 x4 hf => ih σ x0 x1 x2 x3 x4 hf) hf
            · rw [if_pos c14] at hf
              refine g_goto (tgt := 118) dX12_leads_47 (by decide) ?_
              exact bX12_leads_118 hX1 hX2 (fun σ x0 x1 x2 x3 x4 hf => ih σ x0 x1 x2 x3 x4 hf) hf

set_option maxRecDepth 100000 in
set_option maxHeartbeats 4000000 in
theorem wX12_leads (l : Launch) {σ σf : St} {x0 : Nat} {x1 : Int32} {x2 : Int32} {r : Int32} (hf : fX12_leads σ x0 x1 x2 = some (σf, r)) : Con MtX12_leads yX12_leads l σ [rv x0, .int x1, .int x2] σf (some (.int r)) := by
  refine Con.of (by decide +kernel) rfl (fun h => absurd (show false = true from h) (by decide)) (by simp only [sl_n, sl_r, sl_i, sl_l]; exact Nat.le_of_ble_eq_true rfl) ?_
  rw [show lv_args 0 [rv x0, .int x1, .int x2] = [(0, rv x0), (1, .int x1), (2, .int x2)] by simp only [la_n, la_r, la_i, la_l] <;> rfl]
  have hX1 : ((l, σ, σf, .inl (some (.int r))) : Xt).2.2.1 = σf := rfl
  have hX2 : ((l, σ, σf, .inl (some (.int r))) : Xt).2.2.2 = .inl (some (.int r)) := rfl
  unfold fX12_leads at hf
  refine g_iconst (v := (-1)) dX12_leads_0 (by decide) ?_
  refine g_istore_n (i := 3) (L' := [(3, .int ((-1))), (0, rv x0), (1, .int x1), (2, .int x2)]) dX12_leads_1 rfl (Nat.le_of_ble_eq_true rfl) rfl ?_
  refine g_iconst (v := 0) dX12_leads_2 (by decide) ?_
  refine g_istore (i := 4) (L' := [(4, .int 0), (3, .int ((-1))), (0, rv x0), (1, .int x1), (2, .int x2)]) dX12_leads_3 (Nat.le_of_ble_eq_true rfl) rfl ?_
  refine g_sub (L' := [(0, rv x0), (1, .int x1), (2, .int x2), (3, .int ((-1))), (4, .int 0)]) [2, 3, 4, 1, 0] rfl ?_
  exact bX12_leads_5 hX1 hX2 FU _ _ _ _ _ _ hf

theorem okX12_leads (M : Mt) (h1 : 4 + 1 ≤ M.2.2.2.2.1) (h2 : 8 + (6 + 11) + 153 ≤ M.2.2.2.2.2.1) : CallOk M MtX12_leads yX12_leads 2 := ⟨t_2398, h1, h2, ⟨by decide, by decide⟩, by decide +kernel, t_16⟩
abbrev MtX12_isRefused : Mt := (cX12_isRefused, 8, "ExactlySaidModel", (Option.some Jvm.ClassFile.FieldType.boolean), 5, 178, false)
set_option maxRecDepth 100000 in
set_option maxHeartbeats 4000000 in
theorem bX12_isRefused_110 {X : Xt} {σf : St} {r : Int32} (hX1 : X.2.2.1 = σf) (hX2 : X.2.2.2 = .inl (some (.int r))) {σ : St} {x0 : Nat} (hf : fX12_isRefused_110 σ x0 = some (σf, r)) : G MtX12_isRefused X σ 110 [(0, rv x0)] [] := by
  unfold fX12_isRefused_110 at hf
  refine g_aload_n (j := 0) dX12_isRefused_110 rfl rfl ?_
  refine g_iconst (v := 2) dX12_isRefused_111 (by decide) ?_
  refine g_aload_n (j := 0) dX12_isRefused_112 rfl rfl ?_
  obtain ⟨v1, ev1, hf⟩ := ob hf
  refine g_getI dX12_isRefused_113 ev1 t_2001 hin16 hc16 (by decide) rfl ?_
  obtain ⟨_, h4, hf⟩ := ob hf
  obtain ⟨σ2, v3, eσ2, hf⟩ := cb_el hf
  refine g_callV_i dX12_isRefused_116 (wX12_refuses _ eσ2) (okX12_refuses _ (by decide) (by decide)) (ckK_el h4) hc16 t_2371 t_2373 s_X12_refuses rfl (Nat.le_trans (cat_le _) (Nat.le_of_ble_eq_true rfl)) rfl ?_
  obtain ⟨_, h5, hf⟩ := ob hf
  exact g_iret dX12_isRefused_119 rfl (ckZ_el h5) hX2 hX1 hf

set_option maxRecDepth 100000 in
set_option maxHeartbeats 4000000 in
theorem bX12_isRefused_154 {X : Xt} {σf : St} {r : Int32} (hX1 : X.2.2.1 = σf) (hX2 : X.2.2.2 = .inl (some (.int r))) {σ : St} {x0 : Nat} (hf : fX12_isRefused_154 σ x0 = some (σf, r)) : G MtX12_isRefused X σ 154 [(0, rv x0)] [] := by
  unfold fX12_isRefused_154 at hf
  refine g_aload_n (j := 0) dX12_isRefused_154 rfl rfl ?_
  refine g_iconst (v := 3) dX12_isRefused_155 (by decide) ?_
  refine g_aload_n (j := 0) dX12_isRefused_156 rfl rfl ?_
  obtain ⟨v1, ev1, hf⟩ := ob hf
  refine g_getI dX12_isRefused_157 ev1 t_2001 hin16 hc16 (by decide) rfl ?_
  obtain ⟨_, h4, hf⟩ := ob hf
  obtain ⟨σ2, v3, eσ2, hf⟩ := cb_el hf
  refine g_callV_i dX12_isRefused_160 (wX12_refuses _ eσ2) (okX12_refuses _ (by decide) (by decide)) (ckK_el h4) hc16 t_2371 t_2373 s_X12_refuses rfl (Nat.le_trans (cat_le _) (Nat.le_of_ble_eq_true rfl)) rfl ?_
  refine g_if_eq (tgt := 170) dX12_isRefused_163 (by decide) (fun c5 => ?_) (fun c5 => ?_)
  · rw [if_pos c5] at hf
    refine g_iconst (v := 0) dX12_isRefused_170 (by decide) ?_
    exact g_iret dX12_isRefused_171 rfl (by decide) hX2 hX1 hf
  · rw [if_neg c5] at hf
    refine g_iconst (v := 1) dX12_isRefused_166 (by decide) ?_
    refine g_goto (tgt := 171) dX12_isRefused_167 (by decide) ?_
    exact g_iret dX12_isRefused_171 rfl (by decide) hX2 hX1 hf

set_option maxRecDepth 100000 in
set_option maxHeartbeats 4000000 in
theorem bX12_isRefused_259 {X : Xt} {σf : St} {r : Int32} (hX1 : X.2.2.1 = σf) (hX2 : X.2.2.2 = .inl (some (.int r))) {k205 : St → Nat → Int32 → Int32 → Int32 → Int32 → Option (St × Int32)} (hk205 : ∀ (σ : St) (x0 : Nat) (x2 : Int32) (x4 : Int32) (x5 : Int32) (x6 : Int32), k205 σ x0 x2 x4 x5 x6 = some (σf, r) → G MtX12_isRefused X σ 205 [(0, rv x0), (2, .int x2), (4, .int x4), (5, .int x5), (6, .int x6)] []) {σ : St} {x0 : Nat} {x2 : Int32} {x4 : Int32} {x6 : Int32} {y0 : Nat} {y1 : Int32} {y2 : Int32} (hf : fX12_isRefused_259 k205 σ x0 x2 x4 x6 y0 y1 y2 = some (σf, r)) : G MtX12_isRefused X σ 259 [(0, rv x0), (2, .int x2), (4, .int x4), (6, .int x6)] [.int y2, .int y1, rv y0] := by
  unfold fX12_isRefused_259 at hf
  obtain ⟨σ1, eσ1, hf⟩ := ob hf
  refine g_iast dX12_isRefused_259 eσ1 ?_
  refine g_aload_n (j := 0) dX12_isRefused_260 rfl rfl ?_
  refine g_dup dX12_isRefused_261 (rv_cat _) ?_
  obtain ⟨v2, ev2, hf⟩ := ob hf
  refine g_getI dX12_isRefused_262 ev2 t_2013 hin16 hc16 (by decide) rfl ?_
  refine g_iconst (v := 1) dX12_isRefused_265 (by decide) ?_
  refine g_iadd dX12_isRefused_266 ?_
  obtain ⟨σ3, eσ3, hf⟩ := ob hf
  refine g_putI dX12_isRefused_267 eσ3 (Or.inl t_2013) hin16 hc16 (by decide) hty16 hnm16 (Or.inl rfl) rfl rfl rfl ?_
  refine g_aload_n (j := 0) dX12_isRefused_270 rfl rfl ?_
  refine g_iload (j := 3) dX12_isRefused_271 rfl ?_
  refine g_iload_n (j := 1) dX12_isRefused_273 rfl rfl ?_
  obtain ⟨_, h6, hf⟩ := ob hf
  obtain ⟨σ4, v5, eσ4, hf⟩ := cb_el hf
  refine g_callV_i dX12_isRefused_274 (wX12_leads _ eσ4) (okX12_leads _ (by decide) (by decide)) (ckK_el h6) hc16 t_2395 t_2397 s_X12_leads rfl (Nat.le_trans (cat_le _) (Nat.le_of_ble_eq_true rfl)) rfl ?_
  refine g_istore (i := 5) (L' := [(5, .int v5), (0, rv x0), (2, .int x2), (4, .int x4), (6, .int x6)]) dX12_isRefused_277 (Nat.le_of_ble_eq_true rfl) rfl ?_
  refine g_aload_n (j := 1) dX12_isRefused_279 rfl rfl ?_
  obtain ⟨v7, ev7, hf⟩ := ob hf
  refine g_getF dX12_isRefused_280 ev7 t_2005 hin16 hc16 (by decide) rfl ?_
  refine g_iload (j := 0) dX12_isRefused_283 rfl ?_
  obtain ⟨v8, ev8, hf⟩ := ob hf
  refine g_iald dX12_isRefused_285 ev8 ?_
  refine g_istore (i := 6) (L' := [(6, .int v8), (5, .int v5), (0, rv x0), (2, .int x2), (4, .int x4)]) dX12_isRefused_286 (Nat.le_of_ble_eq_true rfl) rfl ?_
  refine g_goto (tgt := 205) dX12_isRefused_288 (by decide) ?_
  refine g_sub (L' := [(0, rv x0), (2, .int x2), (4, .int x4), (5, .int v5), (6, .int v8)]) [2, 3, 4, 1, 0] rfl ?_
  exact hk205 _ _ _ _ _ _ hf

set_option maxRecDepth 100000 in
set_option maxHeartbeats 4000000 in
theorem bX12_isRefused_223 {X : Xt} {σf : St} {r : Int32} (hX1 : X.2.2.1 = σf) (hX2 : X.2.2.2 = .inl (some (.int r))) {k205 : St → Nat → Int32 → Int32 → Int32 → Int32 → Option (St × Int32)} (hk205 : ∀ (σ : St) (x0 : Nat) (x2 : Int32) (x4 : Int32) (x5 : Int32) (x6 : Int32), k205 σ x0 x2 x4 x5 x6 = some (σf, r) → G MtX12_isRefused X σ 205 [(0, rv x0), (2, .int x2), (4, .int x4), (5, .int x5), (6, .int x6)] []) {σ : St} {x0 : Nat} {x2 : Int32} {x4 : Int32} {x6 : Int32} {y0 : Int32} (hf : fX12_isRefused_223 k205 σ x0 x2 x4 x6 y0 = some (σf, r)) : G MtX12_isRefused X σ 223 [(0, rv x0), (2, .int x2), (4, .int x4), (6, .int x6)] [.int y0] := by
  unfold fX12_isRefused_223 at hf
  refine g_istore (i := 7) (L' := [(7, .int y0), (0, rv x0), (2, .int x2), (4, .int x4), (6, .int x6)]) dX12_isRefused_223 (Nat.le_of_ble_eq_true rfl) rfl ?_
  refine g_aload_n (j := 1) dX12_isRefused_225 rfl rfl ?_
  obtain ⟨v1, ev1, hf⟩ := ob hf
  refine g_getF dX12_isRefused_226 ev1 t_2033 hin16 hc16 (by decide) rfl ?_
  refine g_aload_n (j := 1) dX12_isRefused_229 rfl rfl ?_
  obtain ⟨v2, ev2, hf⟩ := ob hf
  refine g_getI dX12_isRefused_230 ev2 t_2013 hin16 hc16 (by decide) rfl ?_
  refine g_iload (j := 0) dX12_isRefused_233 rfl ?_
  refine g_bipush (v := 20) dX12_isRefused_235 (by decide) ?_
  refine g_icmp_ge (tgt := 250) dX12_isRefused_237 (by decide) (fun c3 => ?_) (fun c3 => ?_)
  · rw [if_pos c3] at hf
    refine g_iconst (v := 0) dX12_isRefused_250 (by decide) ?_
    refine g_aload_n (j := 1) dX12_isRefused_251 rfl rfl ?_
    obtain ⟨v4, ev4, hf⟩ := ob hf
    refine g_getF dX12_isRefused_252 ev4 t_2004 hin16 hc16 (by decide) rfl ?_
    refine g_iload (j := 0) dX12_isRefused_255 rfl ?_
    obtain ⟨v5, ev5, hf⟩ := ob hf
    refine g_iald dX12_isRefused_257 ev5 ?_
    refine g_isub dX12_isRefused_258 ?_
    refine g_sub (L' := [(0, rv x0), (2, .int x2), (4, .int x4), (6, .int x6)]) [1, 2, 3, 4] rfl ?_
    exact bX12_isRefused_259 hX1 hX2 hk205 hf
  · rw [if_neg c3] at hf
    refine g_aload_n (j := 1) dX12_isRefused_240 rfl rfl ?_
    obtain ⟨v6, ev6, hf⟩ := ob hf
    refine g_getF dX12_isRefused_241 ev6 t_2004 hin16 hc16 (by decide) rfl ?_
    refine g_iload (j := 0) dX12_isRefused_244 rfl ?_
    obtain ⟨v7, ev7, hf⟩ := ob hf
    refine g_iald dX12_isRefused_246 ev7 ?_
    refine g_goto (tgt := 259) dX12_isRefused_247 (by decide) ?_
    refine g_sub (L' := [(0, rv x0), (2, .int x2), (4, .int x4), (6, .int x6)]) [1, 2, 3, 4] rfl ?_
    exact bX12_isRefused_259 hX1 hX2 hk205 hf

set_option maxRecDepth 100000 in
set_option maxHeartbeats 4000000 in
theorem bX12_isRefused_205 {X : Xt} {σf : St} {r : Int32} (hX1 : X.2.2.1 = σf) (hX2 : X.2.2.2 = .inl (some (.int r))) : ∀ (n : Nat) (σ : St) (x0 : Nat) (x2 : Int32) (x4 : Int32) (x5 : Int32) (x6 : Int32), fX12_isRefused_205 n σ x0 x2 x4 x5 x6 = some (σf, r) → G MtX12_isRefused X σ 205 [(0, rv x0), (2, .int x2), (4, .int x4), (5, .int x5), (6, .int x6)] [] := by
  intro n
  induction n with
  | zero => intro σ x0 x2 x4 x5 x6 hf; cases hf
  | succ n ih =>
    intro σ x0 x2 x4 x5 x6 hf
    rw [fX12_isRefused_205] at hf
    refine g_iload (j := 3) dX12_isRefused_205 rfl ?_
    refine g_iload_n (j := 1) dX12_isRefused_207 rfl rfl ?_
    refine g_icmp_eq (tgt := 291) dX12_isRefused_208 (by decide) (fun c1 => ?_) (fun c1 => ?_)
    · rw [if_pos c1] at hf
      refine g_iload (j := 2) dX12_isRefused_291 rfl ?_
      obtain ⟨_, h2, hf⟩ := ob hf
      exact g_iret dX12_isRefused_293 rfl (ckZ_el h2) hX2 hX1 hf
    · rw [if_neg c1] at hf
      refine g_iload (j := 3) dX12_isRefused_211 rfl ?_
      refine g_iconst (v := (-1)) dX12_isRefused_213 (by decide) ?_
      refine g_icmp_ne (tgt := 221) dX12_isRefused_214 (by decide) (fun c3 => ?_) (fun c3 => ?_)
      · rw [if_neg c3] at hf
        refine g_iload (j := 3) dX12_isRefused_221 rfl ?_
        refine g_sub (L' := [(0, rv x0), (2, .int x2), (4, .int x4), (6, .int x6)]) [0, 1, 2, 4] rfl ?_
        exact bX12_isRefused_223 hX1 hX2 (fun σ x0 x2 x4 x5 x6 hf => ih σ x0 x2 x4 x5 x6 hf) hf
      · rw [if_pos c3] at hf
        refine g_iload_n (j := 1) dX12_isRefused_217 rfl rfl ?_
        refine g_goto (tgt := 223) dX12_isRefused_218 (by decide) ?_
        refine g_sub (L' := [(0, rv x0), (2, .int x2), (4, .int x4), (6, .int x6)]) [0, 1, 2, 4] rfl ?_
        exact bX12_isRefused_223 hX1 hX2 (fun σ x0 x2 x4 x5 x6 hf => ih σ x0 x2 x4 x5 x6 hf) hf

set_option maxRecDepth 100000 in
set_option maxHeartbeats 4000000 in
theorem bX12_isRefused_95 {X : Xt} {σf : St} {r : Int32} (hX1 : X.2.2.1 = σf) (hX2 : X.2.2.2 = .inl (some (.int r))) {σ : St} {x0 : Nat} {x1 : Int32} {x2 : Int32} {y0 : Int32} (hf : fX12_isRefused_95 σ x0 x1 x2 y0 = some (σf, r)) : G MtX12_isRefused X σ 95 [(0, rv x0), (1, .int x1), (2, .int x2)] [.int y0] := by
  unfold fX12_isRefused_95 at hf
  refine g_istore_n (i := 3) (L' := [(3, .int y0), (0, rv x0), (1, .int x1), (2, .int x2)]) dX12_isRefused_95 rfl (Nat.le_of_ble_eq_true rfl) rfl ?_
  refine g_aload_n (j := 1) dX12_isRefused_96 rfl rfl ?_
  obtain ⟨v1, ev1, hf⟩ := ob hf
  refine g_getI dX12_isRefused_97 ev1 t_2000 hin16 hc16 (by decide) rfl ?_
  obtain ⟨σ2, v3, eσ2, hf⟩ := cb_el hf
  refine g_callS_i dX12_isRefused_100 (wX12_known _ eσ2) (okX12_known _ (by decide) (by decide)) t_2365 t_2366 rfl (Nat.le_trans (cat_le _) (Nat.le_of_ble_eq_true rfl)) rfl ?_
  refine g_if_gt (tgt := 110) dX12_isRefused_103 (by decide) (fun c4 => ?_) (fun c4 => ?_)
  · rw [if_pos c4] at hf
    refine g_sub (L' := [(0, rv x0)]) [1] rfl ?_
    exact bX12_isRefused_110 hX1 hX2 hf
  · rw [if_neg c4] at hf
    refine g_iload_n (j := 0) dX12_isRefused_106 rfl rfl ?_
    refine g_if_eq (tgt := 120) dX12_isRefused_107 (by decide) (fun c5 => ?_) (fun c5 => ?_)
    · rw [if_pos c5] at hf
      refine g_iload_n (j := 3) dX12_isRefused_120 rfl rfl ?_
      refine g_iconst (v := (-1)) dX12_isRefused_121 (by decide) ?_
      refine g_icmp_ne (tgt := 172) dX12_isRefused_122 (by decide) (fun c6 => ?_) (fun c6 => ?_)
      · rw [if_neg c6] at hf
        refine g_aload_n (j := 1) dX12_isRefused_172 rfl rfl ?_
        refine g_iload_n (j := 2) dX12_isRefused_173 rfl rfl ?_
        obtain ⟨_, h9, hf⟩ := ob hf
        obtain ⟨σ7, v8, eσ7, hf⟩ := cb_el hf
        refine g_callV_v dX12_isRefused_174 (wX12_findsUsed _ eσ7) (okX12_findsUsed _ (by decide) (by decide)) (ckK_el h9) hc16 t_2387 t_2389 s_X12_findsUsed rfl (Nat.le_trans (cat_le _) (Nat.le_of_ble_eq_true rfl)) rfl ?_
        refine g_aload_n (j := 1) dX12_isRefused_177 rfl rfl ?_
        obtain ⟨v10, ev10, hf⟩ := ob hf
        refine g_getF dX12_isRefused_178 ev10 t_2009 hin16 hc16 (by decide) rfl ?_
        refine g_iload_n (j := 3) dX12_isRefused_181 rfl rfl ?_
        obtain ⟨v11, ev11, hf⟩ := ob hf
        refine g_zald dX12_isRefused_182 ev11 ?_
        refine g_if_ne (tgt := 188) dX12_isRefused_183 (by decide) (fun c12 => ?_) (fun c12 => ?_)
        · rw [if_neg c12] at hf
          refine g_aload_n (j := 1) dX12_isRefused_188 rfl rfl ?_
          refine g_iconst (v := 4) dX12_isRefused_189 (by decide) ?_
          refine g_aload_n (j := 1) dX12_isRefused_190 rfl rfl ?_
          obtain ⟨v13, ev13, hf⟩ := ob hf
          refine g_getI dX12_isRefused_191 ev13 t_2001 hin16 hc16 (by decide) rfl ?_
          obtain ⟨_, h16, hf⟩ := ob hf
          obtain ⟨σ14, v15, eσ14, hf⟩ := cb_el hf
          refine g_callV_i dX12_isRefused_194 (wX12_refuses _ eσ14) (okX12_refuses _ (by decide) (by decide)) (ckK_el h16) hc16 t_2371 t_2373 s_X12_refuses rfl (Nat.le_trans (cat_le _) (Nat.le_of_ble_eq_true rfl)) rfl ?_
          refine g_istore (i := 4) (L' := [(4, .int v15), (3, .int y0), (0, rv x0), (1, .int x1), (2, .int x2)]) dX12_isRefused_197 (Nat.le_of_ble_eq_true rfl) rfl ?_
          refine g_iconst (v := (-1)) dX12_isRefused_199 (by decide) ?_
          refine g_istore (i := 5) (L' := [(5, .int ((-1))), (4, .int v15), (3, .int y0), (0, rv x0), (1, .int x1), (2, .int x2)]) dX12_isRefused_200 (Nat.le_of_ble_eq_true rfl) rfl ?_
          refine g_iload_n (j := 4) dX12_isRefused_202 rfl rfl ?_
          refine g_istore (i := 6) (L' := [(6, .int x1), (5, .int ((-1))), (4, .int v15), (3, .int y0), (0, rv x0), (1, .int x1), (2, .int x2)]) dX12_isRefused_203 (Nat.le_of_ble_eq_true rfl) rfl ?_
          refine g_sub (L' := [(0, rv x0), (2, .int x2), (4, .int v15), (5, .int ((-1))), (6, .int x1)]) [4, 6, 2, 1, 0] rfl ?_
          exact bX12_isRefused_205 hX1 hX2 FU _ _ _ _ _ _ hf
        · rw [if_pos c12] at hf
          refine g_iconst (v := 0) dX12_isRefused_186 (by decide) ?_
          exact g_iret dX12_isRefused_187 rfl (by decide) hX2 hX1 hf
      · rw [if_pos c6] at hf
        refine g_aload_n (j := 1) dX12_isRefused_125 rfl rfl ?_
        obtain ⟨v17, ev17, hf⟩ := ob hf
        refine g_getI dX12_isRefused_126 ev17 t_1999 hin16 hc16 (by decide) rfl ?_
        refine g_iconst (v := 1) dX12_isRefused_129 (by decide) ?_
        refine g_icmp_ne (tgt := 145) dX12_isRefused_130 (by decide) (fun c18 => ?_) (fun c18 => ?_)
        · rw [if_neg c18] at hf
          refine g_aload_n (j := 1) dX12_isRefused_145 rfl rfl ?_
          obtain ⟨v19, ev19, hf⟩ := ob hf
          refine g_getI dX12_isRefused_146 ev19 t_2008 hin16 hc16 (by decide) rfl ?_
          refine g_bipush (v := 10) dX12_isRefused_149 (by decide) ?_
          refine g_icmp_ne (tgt := 170) dX12_isRefused_151 (by decide) (fun c20 => ?_) (fun c20 => ?_)
          · rw [if_neg c20] at hf
            refine g_iconst (v := 0) dX12_isRefused_170 (by decide) ?_
            exact g_iret dX12_isRefused_171 rfl (by decide) hX2 hX1 hf
          · rw [if_pos c20] at hf
            refine g_sub (L' := [(0, rv x0)]) [1] rfl ?_
            exact bX12_isRefused_154 hX1 hX2 hf
        · rw [if_pos c18] at hf
          refine g_aload_n (j := 1) dX12_isRefused_133 rfl rfl ?_
          obtain ⟨v21, ev21, hf⟩ := ob hf
          refine g_getI dX12_isRefused_134 ev21 t_2007 hin16 hc16 (by decide) rfl ?_
          refine g_bipush (v := 20) dX12_isRefused_137 (by decide) ?_
          refine g_icmp_ne (tgt := 170) dX12_isRefused_139 (by decide) (fun c22 => ?_) (fun c22 => ?_)
          · rw [if_neg c22] at hf
            refine g_iconst (v := 0) dX12_isRefused_170 (by decide) ?_
            exact g_iret dX12_isRefused_171 rfl (by decide) hX2 hX1 hf
          · rw [if_pos c22] at hf
            refine g_goto (tgt := 154) dX12_isRefused_142 (by decide) ?_
            refine g_sub (L' := [(0, rv x0)]) [1] rfl ?_
            exact bX12_isRefused_154 hX1 hX2 hf
    · rw [if_neg c5] at hf
      refine g_sub (L' := [(0, rv x0)]) [1] rfl ?_
      exact bX12_isRefused_110 hX1 hX2 hf

set_option maxRecDepth 100000 in
set_option maxHeartbeats 4000000 in
theorem bX12_isRefused_94 {X : Xt} {σf : St} {r : Int32} (hX1 : X.2.2.1 = σf) (hX2 : X.2.2.2 = .inl (some (.int r))) {σ : St} {x0 : Nat} {x1 : Int32} {x2 : Int32} (hf : fX12_isRefused_94 σ x0 x1 x2 = some (σf, r)) : G MtX12_isRefused X σ 94 [(0, rv x0), (1, .int x1), (2, .int x2)] [] := by
  unfold fX12_isRefused_94 at hf
  refine g_iconst (v := 0) dX12_isRefused_94 (by decide) ?_
  exact bX12_isRefused_95 hX1 hX2 hf

set_option maxRecDepth 100000 in
set_option maxHeartbeats 4000000 in
theorem bX12_isRefused_47 {X : Xt} {σf : St} {r : Int32} (hX1 : X.2.2.1 = σf) (hX2 : X.2.2.2 = .inl (some (.int r))) {σ : St} {x0 : Nat} {x1 : Int32} {y0 : Nat} {y1 : Int32} {y2 : Int32} (hf : fX12_isRefused_47 σ x0 x1 y0 y1 y2 = some (σf, r)) : G MtX12_isRefused X σ 47 [(0, rv x0), (1, .int x1)] [.int y2, .int y1, rv y0] := by
  unfold fX12_isRefused_47 at hf
  obtain ⟨_, h3, hf⟩ := ob hf
  obtain ⟨σ1, v2, eσ1, hf⟩ := cb_el hf
  refine g_callV_i dX12_isRefused_47 (wX12_thing _ eσ1) (okX12_thing _ (by decide) (by decide)) (ckK_el h3) hc16 t_2357 t_2359 s_X12_thing rfl (Nat.le_trans (cat_le _) (Nat.le_of_ble_eq_true rfl)) rfl ?_
  refine g_istore_n (i := 2) (L' := [(2, .int v2), (0, rv x0), (1, .int x1)]) dX12_isRefused_50 rfl (Nat.le_of_ble_eq_true rfl) rfl ?_
  refine g_iload_n (j := 0) dX12_isRefused_51 rfl rfl ?_
  refine g_iconst (v := (-1)) dX12_isRefused_52 (by decide) ?_
  refine g_icmp_eq (tgt := 94) dX12_isRefused_53 (by decide) (fun c4 => ?_) (fun c4 => ?_)
  · rw [if_pos c4] at hf
    refine g_sub (L' := [(0, rv x0), (1, .int x1), (2, .int v2)]) [1, 2, 0] rfl ?_
    exact bX12_isRefused_94 hX1 hX2 hf
  · rw [if_neg c4] at hf
    refine g_aload_n (j := 1) dX12_isRefused_56 rfl rfl ?_
    obtain ⟨v5, ev5, hf⟩ := ob hf
    refine g_getI dX12_isRefused_57 ev5 t_1999 hin16 hc16 (by decide) rfl ?_
    refine g_iconst (v := 2) dX12_isRefused_60 (by decide) ?_
    refine g_icmp_ne (tgt := 94) dX12_isRefused_61 (by decide) (fun c6 => ?_) (fun c6 => ?_)
    · rw [if_neg c6] at hf
      refine g_sub (L' := [(0, rv x0), (1, .int x1), (2, .int v2)]) [1, 2, 0] rfl ?_
      exact bX12_isRefused_94 hX1 hX2 hf
    · rw [if_pos c6] at hf
      refine g_aload_n (j := 1) dX12_isRefused_64 rfl rfl ?_
      obtain ⟨v7, ev7, hf⟩ := ob hf
      refine g_getF dX12_isRefused_65 ev7 t_1991 hin16 hc16 (by decide) rfl ?_
      refine g_aload_n (j := 1) dX12_isRefused_68 rfl rfl ?_
      obtain ⟨v8, ev8, hf⟩ := ob hf
      refine g_getF dX12_isRefused_69 ev8 t_2005 hin16 hc16 (by decide) rfl ?_
      refine g_iload_n (j := 0) dX12_isRefused_72 rfl rfl ?_
      obtain ⟨v9, ev9, hf⟩ := ob hf
      refine g_iald dX12_isRefused_73 ev9 ?_
      obtain ⟨v10, ev10, hf⟩ := ob hf
      refine g_iald dX12_isRefused_74 ev10 ?_
      refine g_aload_n (j := 1) dX12_isRefused_75 rfl rfl ?_
      obtain ⟨v11, ev11, hf⟩ := ob hf
      refine g_getI dX12_isRefused_76 ev11 t_2002 hin16 hc16 (by decide) rfl ?_
      refine g_icmp_eq (tgt := 94) dX12_isRefused_79 (by decide) (fun c12 => ?_) (fun c12 => ?_)
      · rw [if_pos c12] at hf
        refine g_sub (L' := [(0, rv x0), (1, .int x1), (2, .int v2)]) [1, 2, 0] rfl ?_
        exact bX12_isRefused_94 hX1 hX2 hf
      · rw [if_neg c12] at hf
        refine g_aload_n (j := 1) dX12_isRefused_82 rfl rfl ?_
        refine g_iload_n (j := 0) dX12_isRefused_83 rfl rfl ?_
        obtain ⟨_, h15, hf⟩ := ob hf
        obtain ⟨σ13, v14, eσ13, hf⟩ := cb_el hf
        refine g_callV_i dX12_isRefused_84 (wX12_users _ eσ13) (okX12_users _ (by decide) (by decide)) (ckK_el h15) hc16 t_2375 t_2377 s_X12_users rfl (Nat.le_trans (cat_le _) (Nat.le_of_ble_eq_true rfl)) rfl ?_
        refine g_if_le (tgt := 94) dX12_isRefused_87 (by decide) (fun c16 => ?_) (fun c16 => ?_)
        · rw [if_pos c16] at hf
          refine g_sub (L' := [(0, rv x0), (1, .int x1), (2, .int v2)]) [1, 2, 0] rfl ?_
          exact bX12_isRefused_94 hX1 hX2 hf
        · rw [if_neg c16] at hf
          refine g_iconst (v := 1) dX12_isRefused_90 (by decide) ?_
          refine g_goto (tgt := 95) dX12_isRefused_91 (by decide) ?_
          refine g_sub (L' := [(0, rv x0), (1, .int x1), (2, .int v2)]) [1, 2, 0] rfl ?_
          exact bX12_isRefused_95 hX1 hX2 hf

set_option maxRecDepth 100000 in
set_option maxHeartbeats 4000000 in
theorem wX12_isRefused (l : Launch) {σ σf : St} {x0 : Nat} {x1 : Int32} {r : Int32} (hf : fX12_isRefused σ x0 x1 = some (σf, r)) : Con MtX12_isRefused yX12_isRefused l σ [rv x0, .int x1] σf (some (.int r)) := by
  refine Con.of (by decide +kernel) rfl (fun h => absurd (show false = true from h) (by decide)) (by simp only [sl_n, sl_r, sl_i, sl_l]; exact Nat.le_of_ble_eq_true rfl) ?_
  rw [show lv_args 0 [rv x0, .int x1] = [(0, rv x0), (1, .int x1)] by simp only [la_n, la_r, la_i, la_l] <;> rfl]
  have hX1 : ((l, σ, σf, .inl (some (.int r))) : Xt).2.2.1 = σf := rfl
  have hX2 : ((l, σ, σf, .inl (some (.int r))) : Xt).2.2.2 = .inl (some (.int r)) := rfl
  unfold fX12_isRefused at hf
  refine g_aload_n (j := 0) dX12_isRefused_0 rfl rfl ?_
  refine g_iload_n (j := 1) dX12_isRefused_1 rfl rfl ?_
  obtain ⟨_, h3, hf⟩ := ob hf
  obtain ⟨σ1, v2, eσ1, hf⟩ := cb_el hf
  refine g_callV_i dX12_isRefused_2 (wX12_unknownAt _ eσ1) (okX12_unknownAt _ (by decide) (by decide)) (ckK_el h3) hc16 t_2353 t_2355 s_X12_unknownAt rfl (Nat.le_trans (cat_le _) (Nat.le_of_ble_eq_true rfl)) rfl ?_
  refine g_iconst (v := (-1)) dX12_isRefused_5 (by decide) ?_
  refine g_icmp_eq (tgt := 20) dX12_isRefused_6 (by decide) (fun c4 => ?_) (fun c4 => ?_)
  · rw [if_pos c4] at hf
    refine g_aload_n (j := 0) dX12_isRefused_20 rfl rfl ?_
    obtain ⟨v5, ev5, hf⟩ := ob hf
    refine g_getI dX12_isRefused_21 ev5 t_1999 hin16 hc16 (by decide) rfl ?_
    refine g_if_ne (tgt := 29) dX12_isRefused_24 (by decide) (fun c6 => ?_) (fun c6 => ?_)
    · rw [if_neg c6] at hf
      refine g_aload_n (j := 0) dX12_isRefused_29 rfl rfl ?_
      refine g_aload_n (j := 0) dX12_isRefused_30 rfl rfl ?_
      obtain ⟨v7, ev7, hf⟩ := ob hf
      refine g_getI dX12_isRefused_31 ev7 t_2000 hin16 hc16 (by decide) rfl ?_
      refine g_aload_n (j := 0) dX12_isRefused_34 rfl rfl ?_
      obtain ⟨v8, ev8, hf⟩ := ob hf
      refine g_getI dX12_isRefused_35 ev8 t_1999 hin16 hc16 (by decide) rfl ?_
      refine g_iconst (v := 2) dX12_isRefused_38 (by decide) ?_
      refine g_icmp_ne (tgt := 46) dX12_isRefused_39 (by decide) (fun c9 => ?_) (fun c9 => ?_)
      · rw [if_neg c9] at hf
        refine g_iconst (v := 0) dX12_isRefused_46 (by decide) ?_
        exact bX12_isRefused_47 hX1 hX2 hf
      · rw [if_pos c9] at hf
        refine g_iconst (v := 1) dX12_isRefused_42 (by decide) ?_
        refine g_goto (tgt := 47) dX12_isRefused_43 (by decide) ?_
        exact bX12_isRefused_47 hX1 hX2 hf
    · rw [if_pos c6] at hf
      refine g_iconst (v := 0) dX12_isRefused_27 (by decide) ?_
      exact g_iret dX12_isRefused_28 rfl (by decide) hX2 hX1 hf
  · rw [if_neg c4] at hf
    refine g_aload_n (j := 0) dX12_isRefused_9 rfl rfl ?_
    refine g_iconst (v := 1) dX12_isRefused_10 (by decide) ?_
    refine g_aload_n (j := 0) dX12_isRefused_11 rfl rfl ?_
    refine g_iload_n (j := 1) dX12_isRefused_12 rfl rfl ?_
    obtain ⟨_, h12, hf⟩ := ob hf
    obtain ⟨σ10, v11, eσ10, hf⟩ := cb_el hf
    refine g_callV_i dX12_isRefused_13 (wX12_unknownAt _ eσ10) (okX12_unknownAt _ (by decide) (by decide)) (ckK_el h12) hc16 t_2353 t_2355 s_X12_unknownAt rfl (Nat.le_trans (cat_le _) (Nat.le_of_ble_eq_true rfl)) rfl ?_
    obtain ⟨_, h15, hf⟩ := ob hf
    obtain ⟨σ13, v14, eσ13, hf⟩ := cb_el hf
    refine g_callV_i dX12_isRefused_16 (wX12_refuses _ eσ13) (okX12_refuses _ (by decide) (by decide)) (ckK_el h15) hc16 t_2371 t_2373 s_X12_refuses rfl (Nat.le_trans (cat_le _) (Nat.le_of_ble_eq_true rfl)) rfl ?_
    obtain ⟨_, h16, hf⟩ := ob hf
    exact g_iret dX12_isRefused_19 rfl (ckZ_el h16) hX2 hX1 hf

theorem okX12_isRefused (M : Mt) (h1 : 5 + 1 ≤ M.2.2.2.2.1) (h2 : 8 + (8 + 11) + 178 ≤ M.2.2.2.2.2.1) : CallOk M MtX12_isRefused yX12_isRefused 1 := ⟨t_2352, h1, h2, ⟨by decide, by decide⟩, by decide +kernel, t_16⟩
abbrev MtX12_refusedStep : Mt := (cX12_refusedStep, 4, "ExactlySaidModel", (Option.some Jvm.ClassFile.FieldType.int), 2, 106, false)
set_option maxRecDepth 100000 in
set_option maxHeartbeats 4000000 in
theorem wX12_refusedStep (l : Launch) {σ σf : St} {x0 : Nat} {x1 : Int32} {x2 : Int32} {r : Int32} (hf : fX12_refusedStep σ x0 x1 x2 = some (σf, r)) : Con MtX12_refusedStep yX12_refusedStep l σ [rv x0, .int x1, .int x2] σf (some (.int r)) := by
  refine Con.of (by decide +kernel) rfl (fun h => absurd (show false = true from h) (by decide)) (by simp only [sl_n, sl_r, sl_i, sl_l]; exact Nat.le_of_ble_eq_true rfl) ?_
  rw [show lv_args 0 [rv x0, .int x1, .int x2] = [(0, rv x0), (1, .int x1), (2, .int x2)] by simp only [la_n, la_r, la_i, la_l] <;> rfl]
  have hX1 : ((l, σ, σf, .inl (some (.int r))) : Xt).2.2.1 = σf := rfl
  have hX2 : ((l, σ, σf, .inl (some (.int r))) : Xt).2.2.2 = .inl (some (.int r)) := rfl
  unfold fX12_refusedStep at hf
  refine g_aload_n (j := 0) dX12_refusedStep_0 rfl rfl ?_
  refine g_iload_n (j := 1) dX12_refusedStep_1 rfl rfl ?_
  refine g_iload_n (j := 2) dX12_refusedStep_2 rfl rfl ?_
  obtain ⟨_, h3, hf⟩ := ob hf
  obtain ⟨σ1, v2, eσ1, hf⟩ := cb_el hf
  refine g_callV_i dX12_refusedStep_3 (wX12_refuses _ eσ1) (okX12_refuses _ (by decide) (by decide)) (ckK_el h3) hc16 t_2371 t_2373 s_X12_refuses rfl (Nat.le_trans (cat_le _) (Nat.le_of_ble_eq_true rfl)) rfl ?_
  refine g_istore_n (i := 3) (L' := [(3, .int v2), (0, rv x0), (1, .int x1), (2, .int x2)]) dX12_refusedStep_6 rfl (Nat.le_of_ble_eq_true rfl) rfl ?_
  refine g_iconst (v := (-1)) dX12_refusedStep_7 (by decide) ?_
  exact g_iret dX12_refusedStep_8 rfl rfl hX2 hX1 hf

theorem okX12_refusedStep (M : Mt) (h1 : 2 + 1 ≤ M.2.2.2.2.1) (h2 : 8 + (4 + 11) + 106 ≤ M.2.2.2.2.2.1) : CallOk M MtX12_refusedStep yX12_refusedStep 2 := ⟨t_2410, h1, h2, ⟨by decide, by decide⟩, by decide +kernel, t_16⟩
abbrev MtX12_isWhole : Mt := (cX12_isWhole, 3, "ExactlySaidModel", (Option.some Jvm.ClassFile.FieldType.boolean), 1, 84, false)
set_option maxRecDepth 100000 in
set_option maxHeartbeats 4000000 in
theorem bX12_isWhole_20 {X : Xt} {σf : St} {r : Int32} (hX1 : X.2.2.1 = σf) (hX2 : X.2.2.2 = .inl (some (.int r))) : ∀ (n : Nat) (σ : St) (x0 : Nat) (x1 : Int32) (x2 : Int32), fX12_isWhole_20 n σ x0 x1 x2 = some (σf, r) → G MtX12_isWhole X σ 20 [(0, rv x0), (1, .int x1), (2, .int x2)] [] := by
  intro n
  induction n with
  | zero => intro σ x0 x1 x2 hf; cases hf
  | succ n ih =>
    intro σ x0 x1 x2 hf
    rw [fX12_isWhole_20] at hf
    refine g_iload_n (j := 2) dX12_isWhole_20 rfl rfl ?_
    refine g_bipush (v := 8) dX12_isWhole_21 (by decide) ?_
    refine g_icmp_ge (tgt := 51) dX12_isWhole_23 (by decide) (fun c1 => ?_) (fun c1 => ?_)
    · rw [if_pos c1] at hf
      refine g_iconst (v := 1) dX12_isWhole_51 (by decide) ?_
      exact g_iret dX12_isWhole_52 rfl (by decide) hX2 hX1 hf
    · rw [if_neg c1] at hf
      refine g_aload_n (j := 0) dX12_isWhole_26 rfl rfl ?_
      obtain ⟨v2, ev2, hf⟩ := ob hf
      refine g_getF dX12_isWhole_27 ev2 t_1971 hin16 hc16 (by decide) rfl ?_
      refine g_bipush (v := 16) dX12_isWhole_30 (by decide) ?_
      refine g_iload_n (j := 1) dX12_isWhole_32 rfl rfl ?_
      refine g_imul dX12_isWhole_33 ?_
      refine g_bipush (v := 8) dX12_isWhole_34 (by decide) ?_
      refine g_iadd dX12_isWhole_36 ?_
      refine g_iload_n (j := 2) dX12_isWhole_37 rfl rfl ?_
      refine g_iadd dX12_isWhole_38 ?_
      obtain ⟨v3, ev3, hf⟩ := ob hf
      refine g_iald dX12_isWhole_39 ev3 ?_
      refine g_if_eq (tgt := 45) dX12_isWhole_40 (by decide) (fun c4 => ?_) (fun c4 => ?_)
      · rw [if_pos c4] at hf
        obtain ⟨v5, ev5, hf⟩ := nm_el hf
        refine g_iinc (L' := [(2, .int v5), (0, rv x0), (1, .int x1)]) (j := 2) (v := v5) dX12_isWhole_45 rfl (by rw [ev5]; rfl) (Nat.le_of_ble_eq_true rfl) rfl ?_
        refine g_goto (tgt := 20) dX12_isWhole_48 (by decide) ?_
        refine g_sub (L' := [(0, rv x0), (1, .int x1), (2, .int v5)]) [1, 2, 0] rfl ?_
        exact ih _ _ _ _ hf
      · rw [if_neg c4] at hf
        refine g_iconst (v := 0) dX12_isWhole_43 (by decide) ?_
        exact g_iret dX12_isWhole_44 rfl (by decide) hX2 hX1 hf

set_option maxRecDepth 100000 in
set_option maxHeartbeats 4000000 in
theorem wX12_isWhole (l : Launch) {σ σf : St} {x0 : Nat} {x1 : Int32} {r : Int32} (hf : fX12_isWhole σ x0 x1 = some (σf, r)) : Con MtX12_isWhole yX12_isWhole l σ [rv x0, .int x1] σf (some (.int r)) := by
  refine Con.of (by decide +kernel) rfl (fun h => absurd (show false = true from h) (by decide)) (by simp only [sl_n, sl_r, sl_i, sl_l]; exact Nat.le_of_ble_eq_true rfl) ?_
  rw [show lv_args 0 [rv x0, .int x1] = [(0, rv x0), (1, .int x1)] by simp only [la_n, la_r, la_i, la_l] <;> rfl]
  have hX1 : ((l, σ, σf, .inl (some (.int r))) : Xt).2.2.1 = σf := rfl
  have hX2 : ((l, σ, σf, .inl (some (.int r))) : Xt).2.2.2 = .inl (some (.int r)) := rfl
  unfold fX12_isWhole at hf
  refine g_aload_n (j := 0) dX12_isWhole_0 rfl rfl ?_
  obtain ⟨v1, ev1, hf⟩ := ob hf
  refine g_getF dX12_isWhole_1 ev1 t_1971 hin16 hc16 (by decide) rfl ?_
  refine g_bipush (v := 16) dX12_isWhole_4 (by decide) ?_
  refine g_iload_n (j := 1) dX12_isWhole_6 rfl rfl ?_
  refine g_imul dX12_isWhole_7 ?_
  refine g_bipush (v := 8) dX12_isWhole_8 (by decide) ?_
  refine g_iadd dX12_isWhole_10 ?_
  obtain ⟨v2, ev2, hf⟩ := ob hf
  refine g_iald dX12_isWhole_11 ev2 ?_
  refine g_iconst (v := 1) dX12_isWhole_12 (by decide) ?_
  refine g_icmp_eq (tgt := 18) dX12_isWhole_13 (by decide) (fun c3 => ?_) (fun c3 => ?_)
  · rw [if_pos c3] at hf
    refine g_iconst (v := 1) dX12_isWhole_18 (by decide) ?_
    refine g_istore_n (i := 2) (L' := [(2, .int 1), (0, rv x0), (1, .int x1)]) dX12_isWhole_19 rfl (Nat.le_of_ble_eq_true rfl) rfl ?_
    refine g_sub (L' := [(0, rv x0), (1, .int x1), (2, .int 1)]) [1, 2, 0] rfl ?_
    exact bX12_isWhole_20 hX1 hX2 FU _ _ _ _ hf
  · rw [if_neg c3] at hf
    refine g_iconst (v := 0) dX12_isWhole_16 (by decide) ?_
    exact g_iret dX12_isWhole_17 rfl (by decide) hX2 hX1 hf

theorem okX12_isWhole (M : Mt) (h1 : 1 + 1 ≤ M.2.2.2.2.1) (h2 : 8 + (3 + 11) + 84 ≤ M.2.2.2.2.2.1) : CallOk M MtX12_isWhole yX12_isWhole 1 := ⟨t_2422, h1, h2, ⟨by decide, by decide⟩, by decide +kernel, t_16⟩
abbrev MtX12_asInt : Mt := (cX12_asInt, 3, "ExactlySaidModel", (Option.some Jvm.ClassFile.FieldType.int), 1, 84, false)
set_option maxRecDepth 100000 in
set_option maxHeartbeats 4000000 in
theorem bX12_asInt_2 {X : Xt} {σf : St} {r : Int32} (hX1 : X.2.2.1 = σf) (hX2 : X.2.2.2 = .inl (some (.int r))) : ∀ (n : Nat) (σ : St) (x0 : Nat) (x1 : Int32) (x2 : Int32), fX12_asInt_2 n σ x0 x1 x2 = some (σf, r) → G MtX12_asInt X σ 2 [(0, rv x0), (1, .int x1), (2, .int x2)] [] := by
  intro n
  induction n with
  | zero => intro σ x0 x1 x2 hf; cases hf
  | succ n ih =>
    intro σ x0 x1 x2 hf
    rw [fX12_asInt_2] at hf
    refine g_iload_n (j := 2) dX12_asInt_2 rfl rfl ?_
    refine g_bipush (v := 8) dX12_asInt_3 (by decide) ?_
    refine g_icmp_ge (tgt := 39) dX12_asInt_5 (by decide) (fun c1 => ?_) (fun c1 => ?_)
    · rw [if_pos c1] at hf
      refine g_aload_n (j := 0) dX12_asInt_39 rfl rfl ?_
      obtain ⟨v2, ev2, hf⟩ := ob hf
      refine g_getF dX12_asInt_40 ev2 t_1970 hin16 hc16 (by decide) rfl ?_
      refine g_iload_n (j := 1) dX12_asInt_43 rfl rfl ?_
      obtain ⟨v3, ev3, hf⟩ := ob hf
      refine g_iald dX12_asInt_44 ev3 ?_
      refine g_aload_n (j := 0) dX12_asInt_45 rfl rfl ?_
      obtain ⟨v4, ev4, hf⟩ := ob hf
      refine g_getF dX12_asInt_46 ev4 t_1971 hin16 hc16 (by decide) rfl ?_
      refine g_bipush (v := 16) dX12_asInt_49 (by decide) ?_
      refine g_iload_n (j := 1) dX12_asInt_51 rfl rfl ?_
      refine g_imul dX12_asInt_52 ?_
      obtain ⟨v5, ev5, hf⟩ := ob hf
      refine g_iald dX12_asInt_53 ev5 ?_
      refine g_imul dX12_asInt_54 ?_
      exact g_iret dX12_asInt_55 rfl rfl hX2 hX1 hf
    · rw [if_neg c1] at hf
      refine g_aload_n (j := 0) dX12_asInt_8 rfl rfl ?_
      obtain ⟨v6, ev6, hf⟩ := ob hf
      refine g_getF dX12_asInt_9 ev6 t_1971 hin16 hc16 (by decide) rfl ?_
      refine g_bipush (v := 16) dX12_asInt_12 (by decide) ?_
      refine g_iload_n (j := 1) dX12_asInt_14 rfl rfl ?_
      refine g_imul dX12_asInt_15 ?_
      refine g_iload_n (j := 2) dX12_asInt_16 rfl rfl ?_
      refine g_iadd dX12_asInt_17 ?_
      obtain ⟨v7, ev7, hf⟩ := ob hf
      refine g_iald dX12_asInt_18 ev7 ?_
      refine g_if_eq (tgt := 33) dX12_asInt_19 (by decide) (fun c8 => ?_) (fun c8 => ?_)
      · rw [if_pos c8] at hf
        obtain ⟨v9, ev9, hf⟩ := nm_el hf
        refine g_iinc (L' := [(2, .int v9), (0, rv x0), (1, .int x1)]) (j := 2) (v := v9) dX12_asInt_33 rfl (by rw [ev9]; rfl) (Nat.le_of_ble_eq_true rfl) rfl ?_
        refine g_goto (tgt := 2) dX12_asInt_36 (by decide) ?_
        refine g_sub (L' := [(0, rv x0), (1, .int x1), (2, .int v9)]) [1, 2, 0] rfl ?_
        exact ih _ _ _ _ hf
      · rw [if_neg c8] at hf
        refine g_aload_n (j := 0) dX12_asInt_22 rfl rfl ?_
        obtain ⟨v10, ev10, hf⟩ := ob hf
        refine g_getF dX12_asInt_23 ev10 t_1970 hin16 hc16 (by decide) rfl ?_
        refine g_iload_n (j := 1) dX12_asInt_26 rfl rfl ?_
        obtain ⟨v11, ev11, hf⟩ := ob hf
        refine g_iald dX12_asInt_27 ev11 ?_
        refine g_sipush (v := 10000) dX12_asInt_28 (by decide) ?_
        refine g_imul dX12_asInt_31 ?_
        exact g_iret dX12_asInt_32 rfl rfl hX2 hX1 hf

set_option maxRecDepth 100000 in
set_option maxHeartbeats 4000000 in
theorem wX12_asInt (l : Launch) {σ σf : St} {x0 : Nat} {x1 : Int32} {r : Int32} (hf : fX12_asInt σ x0 x1 = some (σf, r)) : Con MtX12_asInt yX12_asInt l σ [rv x0, .int x1] σf (some (.int r)) := by
  refine Con.of (by decide +kernel) rfl (fun h => absurd (show false = true from h) (by decide)) (by simp only [sl_n, sl_r, sl_i, sl_l]; exact Nat.le_of_ble_eq_true rfl) ?_
  rw [show lv_args 0 [rv x0, .int x1] = [(0, rv x0), (1, .int x1)] by simp only [la_n, la_r, la_i, la_l] <;> rfl]
  have hX1 : ((l, σ, σf, .inl (some (.int r))) : Xt).2.2.1 = σf := rfl
  have hX2 : ((l, σ, σf, .inl (some (.int r))) : Xt).2.2.2 = .inl (some (.int r)) := rfl
  unfold fX12_asInt at hf
  refine g_iconst (v := 1) dX12_asInt_0 (by decide) ?_
  refine g_istore_n (i := 2) (L' := [(2, .int 1), (0, rv x0), (1, .int x1)]) dX12_asInt_1 rfl (Nat.le_of_ble_eq_true rfl) rfl ?_
  refine g_sub (L' := [(0, rv x0), (1, .int x1), (2, .int 1)]) [1, 2, 0] rfl ?_
  exact bX12_asInt_2 hX1 hX2 FU _ _ _ _ hf

theorem okX12_asInt (M : Mt) (h1 : 1 + 1 ≤ M.2.2.2.2.1) (h2 : 8 + (3 + 11) + 84 ≤ M.2.2.2.2.2.1) : CallOk M MtX12_asInt yX12_asInt 1 := ⟨t_2426, h1, h2, ⟨by decide, by decide⟩, by decide +kernel, t_16⟩
abbrev MtX12_cause : Mt := (cX12_cause, 4, "ExactlySaidModel", (Option.some Jvm.ClassFile.FieldType.int), 2, 106, false)
set_option maxRecDepth 100000 in
set_option maxHeartbeats 4000000 in
theorem bX12_cause_136 {X : Xt} {σf : St} {r : Int32} (hX1 : X.2.2.1 = σf) (hX2 : X.2.2.2 = .inl (some (.int r))) {σ : St} {x0 : Nat} {x1 : Int32} {x2 : Int32} (hf : fX12_cause_136 σ x0 x1 x2 = some (σf, r)) : G MtX12_cause X σ 136 [(0, rv x0), (1, .int x1), (2, .int x2)] [] := by
  unfold fX12_cause_136 at hf
  refine g_iload_n (j := 1) dX12_cause_136 rfl rfl ?_
  refine g_bipush (v := 7) dX12_cause_137 (by decide) ?_
  refine g_icmp_ne (tgt := 157) dX12_cause_139 (by decide) (fun c1 => ?_) (fun c1 => ?_)
  · rw [if_neg c1] at hf
    refine g_iconst (v := 0) dX12_cause_157 (by decide) ?_
    exact g_iret dX12_cause_158 rfl rfl hX2 hX1 hf
  · rw [if_pos c1] at hf
    refine g_aload_n (j := 0) dX12_cause_142 rfl rfl ?_
    refine g_iload_n (j := 2) dX12_cause_143 rfl rfl ?_
    obtain ⟨_, h4, hf⟩ := ob hf
    obtain ⟨σ2, v3, eσ2, hf⟩ := cb_el hf
    refine g_callV_i dX12_cause_144 (wX12_asInt _ eσ2) (okX12_asInt _ (by decide) (by decide)) (ckK_el h4) hc16 t_2423 t_2425 s_X12_asInt rfl (Nat.le_trans (cat_le _) (Nat.le_of_ble_eq_true rfl)) rfl ?_
    refine g_bipush (v := 28) dX12_cause_147 (by decide) ?_
    refine g_icmp_le (tgt := 157) dX12_cause_149 (by decide) (fun c5 => ?_) (fun c5 => ?_)
    · rw [if_pos c5] at hf
      refine g_iconst (v := 0) dX12_cause_157 (by decide) ?_
      exact g_iret dX12_cause_158 rfl rfl hX2 hX1 hf
    · rw [if_neg c5] at hf
      refine g_bipush (v := 7) dX12_cause_152 (by decide) ?_
      refine g_goto (tgt := 158) dX12_cause_154 (by decide) ?_
      exact g_iret dX12_cause_158 rfl rfl hX2 hX1 hf

set_option maxRecDepth 100000 in
set_option maxHeartbeats 4000000 in
theorem bX12_cause_110 {X : Xt} {σf : St} {r : Int32} (hX1 : X.2.2.1 = σf) (hX2 : X.2.2.2 = .inl (some (.int r))) {σ : St} {x0 : Nat} {x1 : Int32} {x2 : Int32} {x3 : Int32} (hf : fX12_cause_110 σ x0 x1 x2 x3 = some (σf, r)) : G MtX12_cause X σ 110 [(0, rv x0), (1, .int x1), (2, .int x2), (3, .int x3)] [] := by
  unfold fX12_cause_110 at hf
  refine g_iload_n (j := 1) dX12_cause_110 rfl rfl ?_
  refine g_bipush (v := 6) dX12_cause_111 (by decide) ?_
  refine g_icmp_ne (tgt := 136) dX12_cause_113 (by decide) (fun c1 => ?_) (fun c1 => ?_)
  · rw [if_neg c1] at hf
    refine g_sub (L' := [(0, rv x0), (1, .int x1), (2, .int x2)]) [0, 1, 2] rfl ?_
    exact bX12_cause_136 hX1 hX2 hf
  · rw [if_pos c1] at hf
    refine g_aload_n (j := 0) dX12_cause_116 rfl rfl ?_
    obtain ⟨v2, ev2, hf⟩ := ob hf
    refine g_getF dX12_cause_117 ev2 t_1970 hin16 hc16 (by decide) rfl ?_
    refine g_iload_n (j := 2) dX12_cause_120 rfl rfl ?_
    obtain ⟨v3, ev3, hf⟩ := ob hf
    refine g_iald dX12_cause_121 ev3 ?_
    refine g_if_ne (tgt := 136) dX12_cause_122 (by decide) (fun c4 => ?_) (fun c4 => ?_)
    · rw [if_neg c4] at hf
      refine g_sub (L' := [(0, rv x0), (1, .int x1), (2, .int x2)]) [0, 1, 2] rfl ?_
      exact bX12_cause_136 hX1 hX2 hf
    · rw [if_pos c4] at hf
      refine g_aload_n (j := 0) dX12_cause_125 rfl rfl ?_
      obtain ⟨v5, ev5, hf⟩ := ob hf
      refine g_getF dX12_cause_126 ev5 t_1970 hin16 hc16 (by decide) rfl ?_
      refine g_iload_n (j := 3) dX12_cause_129 rfl rfl ?_
      obtain ⟨v6, ev6, hf⟩ := ob hf
      refine g_iald dX12_cause_130 ev6 ?_
      refine g_if_ge (tgt := 136) dX12_cause_131 (by decide) (fun c7 => ?_) (fun c7 => ?_)
      · rw [if_pos c7] at hf
        refine g_sub (L' := [(0, rv x0), (1, .int x1), (2, .int x2)]) [0, 1, 2] rfl ?_
        exact bX12_cause_136 hX1 hX2 hf
      · rw [if_neg c7] at hf
        refine g_iconst (v := 5) dX12_cause_134 (by decide) ?_
        exact g_iret dX12_cause_135 rfl rfl hX2 hX1 hf

set_option maxRecDepth 100000 in
set_option maxHeartbeats 4000000 in
theorem bX12_cause_99 {X : Xt} {σf : St} {r : Int32} (hX1 : X.2.2.1 = σf) (hX2 : X.2.2.2 = .inl (some (.int r))) {σ : St} {x0 : Nat} {x1 : Int32} {x2 : Int32} {x3 : Int32} (hf : fX12_cause_99 σ x0 x1 x2 x3 = some (σf, r)) : G MtX12_cause X σ 99 [(0, rv x0), (1, .int x1), (2, .int x2), (3, .int x3)] [] := by
  unfold fX12_cause_99 at hf
  refine g_aload_n (j := 0) dX12_cause_99 rfl rfl ?_
  obtain ⟨v1, ev1, hf⟩ := ob hf
  refine g_getF dX12_cause_100 ev1 t_1970 hin16 hc16 (by decide) rfl ?_
  refine g_iload_n (j := 3) dX12_cause_103 rfl rfl ?_
  obtain ⟨v2, ev2, hf⟩ := ob hf
  refine g_iald dX12_cause_104 ev2 ?_
  refine g_if_ne (tgt := 110) dX12_cause_105 (by decide) (fun c3 => ?_) (fun c3 => ?_)
  · rw [if_neg c3] at hf
    exact bX12_cause_110 hX1 hX2 hf
  · rw [if_pos c3] at hf
    refine g_iconst (v := 5) dX12_cause_108 (by decide) ?_
    exact g_iret dX12_cause_109 rfl rfl hX2 hX1 hf

set_option maxRecDepth 100000 in
set_option maxHeartbeats 4000000 in
theorem bX12_cause_89 {X : Xt} {σf : St} {r : Int32} (hX1 : X.2.2.1 = σf) (hX2 : X.2.2.2 = .inl (some (.int r))) {σ : St} {x0 : Nat} {x1 : Int32} {x2 : Int32} {x3 : Int32} (hf : fX12_cause_89 σ x0 x1 x2 x3 = some (σf, r)) : G MtX12_cause X σ 89 [(0, rv x0), (1, .int x1), (2, .int x2), (3, .int x3)] [] := by
  unfold fX12_cause_89 at hf
  refine g_iload_n (j := 1) dX12_cause_89 rfl rfl ?_
  refine g_iconst (v := 4) dX12_cause_90 (by decide) ?_
  refine g_icmp_eq (tgt := 99) dX12_cause_91 (by decide) (fun c1 => ?_) (fun c1 => ?_)
  · rw [if_pos c1] at hf
    exact bX12_cause_99 hX1 hX2 hf
  · rw [if_neg c1] at hf
    refine g_iload_n (j := 1) dX12_cause_94 rfl rfl ?_
    refine g_iconst (v := 5) dX12_cause_95 (by decide) ?_
    refine g_icmp_ne (tgt := 110) dX12_cause_96 (by decide) (fun c2 => ?_) (fun c2 => ?_)
    · rw [if_neg c2] at hf
      exact bX12_cause_110 hX1 hX2 hf
    · rw [if_pos c2] at hf
      exact bX12_cause_99 hX1 hX2 hf

set_option maxRecDepth 100000 in
set_option maxHeartbeats 4000000 in
theorem bX12_cause_70 {X : Xt} {σf : St} {r : Int32} (hX1 : X.2.2.1 = σf) (hX2 : X.2.2.2 = .inl (some (.int r))) {σ : St} {x0 : Nat} {x1 : Int32} {x2 : Int32} {x3 : Int32} (hf : fX12_cause_70 σ x0 x1 x2 x3 = some (σf, r)) : G MtX12_cause X σ 70 [(0, rv x0), (1, .int x1), (2, .int x2), (3, .int x3)] [] := by
  unfold fX12_cause_70 at hf
  refine g_aload_n (j := 0) dX12_cause_70 rfl rfl ?_
  refine g_iload_n (j := 2) dX12_cause_71 rfl rfl ?_
  obtain ⟨_, h3, hf⟩ := ob hf
  obtain ⟨σ1, v2, eσ1, hf⟩ := cb_el hf
  refine g_callV_i dX12_cause_72 (wX12_isWhole _ eσ1) (okX12_isWhole _ (by decide) (by decide)) (ckK_el h3) hc16 t_2419 t_2421 s_X12_isWhole rfl (Nat.le_trans (cat_le _) (Nat.le_of_ble_eq_true rfl)) rfl ?_
  refine g_if_eq (tgt := 86) dX12_cause_75 (by decide) (fun c4 => ?_) (fun c4 => ?_)
  · rw [if_pos c4] at hf
    refine g_bipush (v := 6) dX12_cause_86 (by decide) ?_
    exact g_iret dX12_cause_88 rfl rfl hX2 hX1 hf
  · rw [if_neg c4] at hf
    refine g_aload_n (j := 0) dX12_cause_78 rfl rfl ?_
    refine g_iload_n (j := 3) dX12_cause_79 rfl rfl ?_
    obtain ⟨_, h7, hf⟩ := ob hf
    obtain ⟨σ5, v6, eσ5, hf⟩ := cb_el hf
    refine g_callV_i dX12_cause_80 (wX12_isWhole _ eσ5) (okX12_isWhole _ (by decide) (by decide)) (ckK_el h7) hc16 t_2419 t_2421 s_X12_isWhole rfl (Nat.le_trans (cat_le _) (Nat.le_of_ble_eq_true rfl)) rfl ?_
    refine g_if_ne (tgt := 89) dX12_cause_83 (by decide) (fun c8 => ?_) (fun c8 => ?_)
    · rw [if_neg c8] at hf
      exact bX12_cause_89 hX1 hX2 hf
    · rw [if_pos c8] at hf
      refine g_bipush (v := 6) dX12_cause_86 (by decide) ?_
      exact g_iret dX12_cause_88 rfl rfl hX2 hX1 hf

set_option maxRecDepth 100000 in
set_option maxHeartbeats 4000000 in
theorem bX12_cause_58 {X : Xt} {σf : St} {r : Int32} (hX1 : X.2.2.1 = σf) (hX2 : X.2.2.2 = .inl (some (.int r))) {σ : St} {x0 : Nat} {x1 : Int32} {x2 : Int32} {x3 : Int32} (hf : fX12_cause_58 σ x0 x1 x2 x3 = some (σf, r)) : G MtX12_cause X σ 58 [(0, rv x0), (1, .int x1), (2, .int x2), (3, .int x3)] [] := by
  unfold fX12_cause_58 at hf
  refine g_iload_n (j := 1) dX12_cause_58 rfl rfl ?_
  refine g_bipush (v := 10) dX12_cause_59 (by decide) ?_
  refine g_icmp_eq (tgt := 70) dX12_cause_61 (by decide) (fun c1 => ?_) (fun c1 => ?_)
  · rw [if_pos c1] at hf
    exact bX12_cause_70 hX1 hX2 hf
  · rw [if_neg c1] at hf
    refine g_iload_n (j := 1) dX12_cause_64 rfl rfl ?_
    refine g_bipush (v := 11) dX12_cause_65 (by decide) ?_
    refine g_icmp_ne (tgt := 89) dX12_cause_67 (by decide) (fun c2 => ?_) (fun c2 => ?_)
    · rw [if_neg c2] at hf
      exact bX12_cause_89 hX1 hX2 hf
    · rw [if_pos c2] at hf
      exact bX12_cause_70 hX1 hX2 hf

set_option maxRecDepth 100000 in
set_option maxHeartbeats 4000000 in
theorem bX12_cause_32 {X : Xt} {σf : St} {r : Int32} (hX1 : X.2.2.1 = σf) (hX2 : X.2.2.2 = .inl (some (.int r))) {σ : St} {x0 : Nat} {x1 : Int32} {x2 : Int32} {x3 : Int32} (hf : fX12_cause_32 σ x0 x1 x2 x3 = some (σf, r)) : G MtX12_cause X σ 32 [(0, rv x0), (1, .int x1), (2, .int x2), (3, .int x3)] [] := by
  unfold fX12_cause_32 at hf
  refine g_iload_n (j := 1) dX12_cause_32 rfl rfl ?_
  refine g_bipush (v := 7) dX12_cause_33 (by decide) ?_
  refine g_icmp_ne (tgt := 58) dX12_cause_35 (by decide) (fun c1 => ?_) (fun c1 => ?_)
  · rw [if_neg c1] at hf
    exact bX12_cause_58 hX1 hX2 hf
  · rw [if_pos c1] at hf
    refine g_aload_n (j := 0) dX12_cause_38 rfl rfl ?_
    refine g_iload_n (j := 2) dX12_cause_39 rfl rfl ?_
    obtain ⟨_, h4, hf⟩ := ob hf
    obtain ⟨σ2, v3, eσ2, hf⟩ := cb_el hf
    refine g_callV_i dX12_cause_40 (wX12_isWhole _ eσ2) (okX12_isWhole _ (by decide) (by decide)) (ckK_el h4) hc16 t_2419 t_2421 s_X12_isWhole rfl (Nat.le_trans (cat_le _) (Nat.le_of_ble_eq_true rfl)) rfl ?_
    refine g_if_eq (tgt := 55) dX12_cause_43 (by decide) (fun c5 => ?_) (fun c5 => ?_)
    · rw [if_pos c5] at hf
      refine g_bipush (v := 6) dX12_cause_55 (by decide) ?_
      exact g_iret dX12_cause_57 rfl rfl hX2 hX1 hf
    · rw [if_neg c5] at hf
      refine g_aload_n (j := 0) dX12_cause_46 rfl rfl ?_
      obtain ⟨v6, ev6, hf⟩ := ob hf
      refine g_getF dX12_cause_47 ev6 t_1970 hin16 hc16 (by decide) rfl ?_
      refine g_iload_n (j := 2) dX12_cause_50 rfl rfl ?_
      obtain ⟨v7, ev7, hf⟩ := ob hf
      refine g_iald dX12_cause_51 ev7 ?_
      refine g_if_ge (tgt := 58) dX12_cause_52 (by decide) (fun c8 => ?_) (fun c8 => ?_)
      · rw [if_pos c8] at hf
        exact bX12_cause_58 hX1 hX2 hf
      · rw [if_neg c8] at hf
        refine g_bipush (v := 6) dX12_cause_55 (by decide) ?_
        exact g_iret dX12_cause_57 rfl rfl hX2 hX1 hf

set_option maxRecDepth 100000 in
set_option maxHeartbeats 4000000 in
theorem wX12_cause (l : Launch) {σ σf : St} {x0 : Nat} {x1 : Int32} {x2 : Int32} {x3 : Int32} {r : Int32} (hf : fX12_cause σ x0 x1 x2 x3 = some (σf, r)) : Con MtX12_cause yX12_cause l σ [rv x0, .int x1, .int x2, .int x3] σf (some (.int r)) := by
  refine Con.of (by decide +kernel) rfl (fun h => absurd (show false = true from h) (by decide)) (by simp only [sl_n, sl_r, sl_i, sl_l]; exact Nat.le_of_ble_eq_true rfl) ?_
  rw [show lv_args 0 [rv x0, .int x1, .int x2, .int x3] = [(0, rv x0), (1, .int x1), (2, .int x2), (3, .int x3)] by simp only [la_n, la_r, la_i, la_l] <;> rfl]
  have hX1 : ((l, σ, σf, .inl (some (.int r))) : Xt).2.2.1 = σf := rfl
  have hX2 : ((l, σ, σf, .inl (some (.int r))) : Xt).2.2.2 = .inl (some (.int r)) := rfl
  unfold fX12_cause at hf
  refine g_iload_n (j := 1) dX12_cause_0 rfl rfl ?_
  refine g_bipush (v := 6) dX12_cause_1 (by decide) ?_
  refine g_icmp_ne (tgt := 32) dX12_cause_3 (by decide) (fun c1 => ?_) (fun c1 => ?_)
  · rw [if_neg c1] at hf
    exact bX12_cause_32 hX1 hX2 hf
  · rw [if_pos c1] at hf
    refine g_aload_n (j := 0) dX12_cause_6 rfl rfl ?_
    refine g_iload_n (j := 3) dX12_cause_7 rfl rfl ?_
    obtain ⟨_, h4, hf⟩ := ob hf
    obtain ⟨σ2, v3, eσ2, hf⟩ := cb_el hf
    refine g_callV_i dX12_cause_8 (wX12_isWhole _ eσ2) (okX12_isWhole _ (by decide) (by decide)) (ckK_el h4) hc16 t_2419 t_2421 s_X12_isWhole rfl (Nat.le_trans (cat_le _) (Nat.le_of_ble_eq_true rfl)) rfl ?_
    refine g_if_eq (tgt := 29) dX12_cause_11 (by decide) (fun c5 => ?_) (fun c5 => ?_)
    · rw [if_pos c5] at hf
      refine g_bipush (v := 6) dX12_cause_29 (by decide) ?_
      exact g_iret dX12_cause_31 rfl rfl hX2 hX1 hf
    · rw [if_neg c5] at hf
      refine g_aload_n (j := 0) dX12_cause_14 rfl rfl ?_
      refine g_iload_n (j := 3) dX12_cause_15 rfl rfl ?_
      obtain ⟨_, h8, hf⟩ := ob hf
      obtain ⟨σ6, v7, eσ6, hf⟩ := cb_el hf
      refine g_callV_i dX12_cause_16 (wX12_asInt _ eσ6) (okX12_asInt _ (by decide) (by decide)) (ckK_el h8) hc16 t_2423 t_2425 s_X12_asInt rfl (Nat.le_trans (cat_le _) (Nat.le_of_ble_eq_true rfl)) rfl ?_
      refine g_bipush (v := (-100)) dX12_cause_19 (by decide) ?_
      refine g_bipush (v := 100) dX12_cause_21 (by decide) ?_
      obtain ⟨σ9, v10, eσ9, hf⟩ := cb_el hf
      refine g_callS_i dX12_cause_23 (wX12_in _ eσ9) (okX12_in _ (by decide) (by decide)) t_2257 t_2258 rfl (Nat.le_trans (cat_le _) (Nat.le_of_ble_eq_true rfl)) rfl ?_
      refine g_if_ne (tgt := 32) dX12_cause_26 (by decide) (fun c11 => ?_) (fun c11 => ?_)
      · rw [if_neg c11] at hf
        exact bX12_cause_32 hX1 hX2 hf
      · rw [if_pos c11] at hf
        refine g_bipush (v := 6) dX12_cause_29 (by decide) ?_
        exact g_iret dX12_cause_31 rfl rfl hX2 hX1 hf

theorem okX12_cause (M : Mt) (h1 : 2 + 1 ≤ M.2.2.2.2.1) (h2 : 8 + (4 + 11) + 106 ≤ M.2.2.2.2.2.1) : CallOk M MtX12_cause yX12_cause 3 := ⟨t_2418, h1, h2, ⟨by decide, by decide⟩, by decide +kernel, t_16⟩
abbrev MtX12_loads : Mt := (cX12_loads, 6, "ExactlySaidModel", none, 2, 105, false)
set_option maxRecDepth 100000 in
set_option maxHeartbeats 4000000 in
theorem bX12_loads_28 {X : Xt} {σf : St} {r : Unit} (hX1 : X.2.2.1 = σf) (hX2 : X.2.2.2 = .inl (none)) : ∀ (n : Nat) (σ : St) (x0 : Nat) (x1 : Int32) (x4 : Int32) (x5 : Int32), fX12_loads_28 n σ x0 x1 x4 x5 = some (σf, r) → G MtX12_loads X σ 28 [(0, rv x0), (1, .int x1), (4, .int x4), (5, .int x5)] [] := by
  intro n
  induction n with
  | zero => intro σ x0 x1 x4 x5 hf; cases hf
  | succ n ih =>
    intro σ x0 x1 x4 x5 hf
    rw [fX12_loads_28] at hf
    refine g_iload (j := 3) dX12_loads_28 rfl ?_
    refine g_bipush (v := 8) dX12_loads_30 (by decide) ?_
    refine g_icmp_ge (tgt := 64) dX12_loads_32 (by decide) (fun c1 => ?_) (fun c1 => ?_)
    · rw [if_pos c1] at hf
      refine g_aload_n (j := 0) dX12_loads_64 rfl rfl ?_
      refine g_iload_n (j := 1) dX12_loads_65 rfl rfl ?_
      obtain ⟨_, h4, hf⟩ := ob hf
      obtain ⟨σ2, v3, eσ2, hf⟩ := cb_el hf
      refine g_callV_v dX12_loads_66 (wX12_trims _ eσ2) (okX12_trims _ (by decide) (by decide)) (ckK_el h4) hc16 t_1943 t_1945 s_X12_trims rfl (Nat.le_trans (cat_le _) (Nat.le_of_ble_eq_true rfl)) rfl ?_
      exact g_vret dX12_loads_69 rfl hX2 hX1 hf
    · rw [if_neg c1] at hf
      refine g_aload_n (j := 0) dX12_loads_35 rfl rfl ?_
      obtain ⟨v5, ev5, hf⟩ := ob hf
      refine g_getF dX12_loads_36 ev5 t_1968 hin16 hc16 (by decide) rfl ?_
      refine g_sipush (v := 1000) dX12_loads_39 (by decide) ?_
      refine g_iload_n (j := 1) dX12_loads_42 rfl rfl ?_
      refine g_imul dX12_loads_43 ?_
      refine g_iload (j := 3) dX12_loads_44 rfl ?_
      refine g_iadd dX12_loads_46 ?_
      refine g_aload_n (j := 0) dX12_loads_47 rfl rfl ?_
      obtain ⟨v6, ev6, hf⟩ := ob hf
      refine g_getF dX12_loads_48 ev6 t_1971 hin16 hc16 (by decide) rfl ?_
      refine g_iload (j := 2) dX12_loads_51 rfl ?_
      refine g_iload (j := 3) dX12_loads_53 rfl ?_
      refine g_iadd dX12_loads_55 ?_
      obtain ⟨v7, ev7, hf⟩ := ob hf
      refine g_iald dX12_loads_56 ev7 ?_
      obtain ⟨σ8, eσ8, hf⟩ := ob hf
      refine g_iast dX12_loads_57 eσ8 ?_
      obtain ⟨v9, ev9, hf⟩ := nm_el hf
      refine g_iinc (L' := [(5, .int v9), (0, rv x0), (1, .int x1), (4, .int x4)]) (j := 3) (v := v9) dX12_loads_58 rfl (by rw [ev9]; rfl) (Nat.le_of_ble_eq_true rfl) rfl ?_
      refine g_goto (tgt := 28) dX12_loads_61 (by decide) ?_
      refine g_sub (L' := [(0, rv x0), (1, .int x1), (4, .int x4), (5, .int v9)]) [1, 2, 3, 0] rfl ?_
      exact ih _ _ _ _ _ hf

set_option maxRecDepth 100000 in
set_option maxHeartbeats 4000000 in
theorem bX12_loads_22 {X : Xt} {σf : St} {r : Unit} (hX1 : X.2.2.1 = σf) (hX2 : X.2.2.2 = .inl (none)) {σ : St} {x0 : Nat} {x1 : Int32} {y0 : Int32} {y1 : Int32} (hf : fX12_loads_22 σ x0 x1 y0 y1 = some (σf, r)) : G MtX12_loads X σ 22 [(0, rv x0), (1, .int x1)] [.int y1, .int y0] := by
  unfold fX12_loads_22 at hf
  refine g_iadd dX12_loads_22 ?_
  obtain ⟨v1, ev1, hf⟩ := nm_el hf
  refine g_topI ev1 ?_
  refine g_istore (i := 4) (L' := [(4, .int v1), (0, rv x0), (1, .int x1)]) dX12_loads_23 (Nat.le_of_ble_eq_true rfl) rfl ?_
  refine g_iconst (v := 0) dX12_loads_25 (by decide) ?_
  refine g_istore (i := 5) (L' := [(5, .int 0), (4, .int v1), (0, rv x0), (1, .int x1)]) dX12_loads_26 (Nat.le_of_ble_eq_true rfl) rfl ?_
  refine g_sub (L' := [(0, rv x0), (1, .int x1), (4, .int v1), (5, .int 0)]) [2, 3, 1, 0] rfl ?_
  exact bX12_loads_28 hX1 hX2 FU _ _ _ _ _ hf

set_option maxRecDepth 100000 in
set_option maxHeartbeats 4000000 in
theorem wX12_loads (l : Launch) {σ σf : St} {x0 : Nat} {x1 : Int32} {x2 : Int32} {x3 : Int32} {r : Unit} (hf : fX12_loads σ x0 x1 x2 x3 = some (σf, r)) : Con MtX12_loads yX12_loads l σ [rv x0, .int x1, .int x2, .int x3] σf (none) := by
  refine Con.of (by decide +kernel) rfl (fun h => absurd (show false = true from h) (by decide)) (by simp only [sl_n, sl_r, sl_i, sl_l]; exact Nat.le_of_ble_eq_true rfl) ?_
  rw [show lv_args 0 [rv x0, .int x1, .int x2, .int x3] = [(0, rv x0), (1, .int x1), (2, .int x2), (3, .int x3)] by simp only [la_n, la_r, la_i, la_l] <;> rfl]
  have hX1 : ((l, σ, σf, .inl (none)) : Xt).2.2.1 = σf := rfl
  have hX2 : ((l, σ, σf, .inl (none)) : Xt).2.2.2 = .inl (none) := rfl
  unfold fX12_loads at hf
  refine g_aload_n (j := 0) dX12_loads_0 rfl rfl ?_
  obtain ⟨v1, ev1, hf⟩ := ob hf
  refine g_getF dX12_loads_1 ev1 t_1969 hin16 hc16 (by decide) rfl ?_
  refine g_iload_n (j := 1) dX12_loads_4 rfl rfl ?_
  refine g_bipush (v := 8) dX12_loads_5 (by decide) ?_
  obtain ⟨σ2, eσ2, hf⟩ := ob hf
  refine g_iast dX12_loads_7 eσ2 ?_
  refine g_bipush (v := 16) dX12_loads_8 (by decide) ?_
  refine g_iload_n (j := 2) dX12_loads_10 rfl rfl ?_
  refine g_imul dX12_loads_11 ?_
  refine g_iload_n (j := 3) dX12_loads_12 rfl rfl ?_
  refine g_if_eq (tgt := 21) dX12_loads_13 (by decide) (fun c3 => ?_) (fun c3 => ?_)
  · rw [if_pos c3] at hf
    refine g_iconst (v := 0) dX12_loads_21 (by decide) ?_
    refine g_sub (L' := [(0, rv x0), (1, .int x1)]) [0, 1] rfl ?_
    exact bX12_loads_22 hX1 hX2 hf
  · rw [if_neg c3] at hf
    refine g_bipush (v := 8) dX12_loads_16 (by decide) ?_
    refine g_goto (tgt := 22) dX12_loads_18 (by decide) ?_
    refine g_sub (L' := [(0, rv x0), (1, .int x1)]) [0, 1] rfl ?_
    exact bX12_loads_22 hX1 hX2 hf

theorem okX12_loads (M : Mt) (h1 : 2 + 1 ≤ M.2.2.2.2.1) (h2 : 8 + (6 + 11) + 105 ≤ M.2.2.2.2.2.1) : CallOk M MtX12_loads yX12_loads 3 := ⟨t_2442, h1, h2, ⟨by decide, by decide⟩, by decide +kernel, t_16⟩
abbrev MtX12_loadsBoth : Mt := (cX12_loadsBoth, 3, "ExactlySaidModel", none, 3, 130, false)
set_option maxRecDepth 100000 in
set_option maxHeartbeats 4000000 in
theorem wX12_loadsBoth (l : Launch) {σ σf : St} {x0 : Nat} {x1 : Int32} {x2 : Int32} {r : Unit} (hf : fX12_loadsBoth σ x0 x1 x2 = some (σf, r)) : Con MtX12_loadsBoth yX12_loadsBoth l σ [rv x0, .int x1, .int x2] σf (none) := by
  refine Con.of (by decide +kernel) rfl (fun h => absurd (show false = true from h) (by decide)) (by simp only [sl_n, sl_r, sl_i, sl_l]; exact Nat.le_of_ble_eq_true rfl) ?_
  rw [show lv_args 0 [rv x0, .int x1, .int x2] = [(0, rv x0), (1, .int x1), (2, .int x2)] by simp only [la_n, la_r, la_i, la_l] <;> rfl]
  have hX1 : ((l, σ, σf, .inl (none)) : Xt).2.2.1 = σf := rfl
  have hX2 : ((l, σ, σf, .inl (none)) : Xt).2.2.2 = .inl (none) := rfl
  unfold fX12_loadsBoth at hf
  refine g_aload_n (j := 0) dX12_loadsBoth_0 rfl rfl ?_
  refine g_iconst (v := 0) dX12_loadsBoth_1 (by decide) ?_
  refine g_iload_n (j := 1) dX12_loadsBoth_2 rfl rfl ?_
  refine g_iconst (v := 0) dX12_loadsBoth_3 (by decide) ?_
  obtain ⟨_, h3, hf⟩ := ob hf
  obtain ⟨σ1, v2, eσ1, hf⟩ := cb_el hf
  refine g_callV_v dX12_loadsBoth_4 (wX12_loads _ eσ1) (okX12_loads _ (by decide) (by decide)) (ckK_el h3) hc16 t_2439 t_2441 s_X12_loads rfl (Nat.le_trans (cat_le _) (Nat.le_of_ble_eq_true rfl)) rfl ?_
  refine g_aload_n (j := 0) dX12_loadsBoth_7 rfl rfl ?_
  refine g_iconst (v := 1) dX12_loadsBoth_8 (by decide) ?_
  refine g_iload_n (j := 1) dX12_loadsBoth_9 rfl rfl ?_
  refine g_iconst (v := 1) dX12_loadsBoth_10 (by decide) ?_
  obtain ⟨_, h6, hf⟩ := ob hf
  obtain ⟨σ4, v5, eσ4, hf⟩ := cb_el hf
  refine g_callV_v dX12_loadsBoth_11 (wX12_loads _ eσ4) (okX12_loads _ (by decide) (by decide)) (ckK_el h6) hc16 t_2439 t_2441 s_X12_loads rfl (Nat.le_trans (cat_le _) (Nat.le_of_ble_eq_true rfl)) rfl ?_
  refine g_aload_n (j := 0) dX12_loadsBoth_14 rfl rfl ?_
  refine g_iconst (v := 2) dX12_loadsBoth_15 (by decide) ?_
  refine g_iload_n (j := 2) dX12_loadsBoth_16 rfl rfl ?_
  refine g_iconst (v := 0) dX12_loadsBoth_17 (by decide) ?_
  obtain ⟨_, h9, hf⟩ := ob hf
  obtain ⟨σ7, v8, eσ7, hf⟩ := cb_el hf
  refine g_callV_v dX12_loadsBoth_18 (wX12_loads _ eσ7) (okX12_loads _ (by decide) (by decide)) (ckK_el h9) hc16 t_2439 t_2441 s_X12_loads rfl (Nat.le_trans (cat_le _) (Nat.le_of_ble_eq_true rfl)) rfl ?_
  refine g_aload_n (j := 0) dX12_loadsBoth_21 rfl rfl ?_
  refine g_iconst (v := 3) dX12_loadsBoth_22 (by decide) ?_
  refine g_iload_n (j := 2) dX12_loadsBoth_23 rfl rfl ?_
  refine g_iconst (v := 1) dX12_loadsBoth_24 (by decide) ?_
  obtain ⟨_, h12, hf⟩ := ob hf
  obtain ⟨σ10, v11, eσ10, hf⟩ := cb_el hf
  refine g_callV_v dX12_loadsBoth_25 (wX12_loads _ eσ10) (okX12_loads _ (by decide) (by decide)) (ckK_el h12) hc16 t_2439 t_2441 s_X12_loads rfl (Nat.le_trans (cat_le _) (Nat.le_of_ble_eq_true rfl)) rfl ?_
  exact g_vret dX12_loadsBoth_28 rfl hX2 hX1 hf

theorem okX12_loadsBoth (M : Mt) (h1 : 3 + 1 ≤ M.2.2.2.2.1) (h2 : 8 + (3 + 11) + 130 ≤ M.2.2.2.2.2.1) : CallOk M MtX12_loadsBoth yX12_loadsBoth 2 := ⟨t_2438, h1, h2, ⟨by decide, by decide⟩, by decide +kernel, t_16⟩
abbrev MtX12_joins : Mt := (cX12_joins, 4, "ExactlySaidModel", (Option.some Jvm.ClassFile.FieldType.int), 3, 132, false)
set_option maxRecDepth 100000 in
set_option maxHeartbeats 4000000 in
theorem bX12_joins_13 {X : Xt} {σf : St} {r : Int32} (hX1 : X.2.2.1 = σf) (hX2 : X.2.2.2 = .inl (some (.int r))) {σ : St} {x0 : Nat} {x1 : Int32} {x2 : Int32} (hf : fX12_joins_13 σ x0 x1 x2 = some (σf, r)) : G MtX12_joins X σ 13 [(0, rv x0), (1, .int x1), (2, .int x2)] [] := by
  unfold fX12_joins_13 at hf
  refine g_aload_n (j := 0) dX12_joins_13 rfl rfl ?_
  refine g_bipush (v := 6) dX12_joins_14 (by decide) ?_
  refine g_iconst (v := 4) dX12_joins_16 (by decide) ?_
  obtain ⟨_, h3, hf⟩ := ob hf
  obtain ⟨σ1, v2, eσ1, hf⟩ := cb_el hf
  refine g_callV_v dX12_joins_17 (wX12_copies _ eσ1) (okX12_copies _ (by decide) (by decide)) (ckK_el h3) hc16 t_1927 t_1929 s_X12_copies rfl (Nat.le_trans (cat_le _) (Nat.le_of_ble_eq_true rfl)) rfl ?_
  refine g_aload_n (j := 0) dX12_joins_20 rfl rfl ?_
  refine g_bipush (v := 6) dX12_joins_21 (by decide) ?_
  refine g_iconst (v := 5) dX12_joins_23 (by decide) ?_
  obtain ⟨_, h6, hf⟩ := ob hf
  obtain ⟨σ4, v5, eσ4, hf⟩ := cb_el hf
  refine g_callV_v dX12_joins_24 (wX12_adds _ eσ4) (okX12_adds _ (by decide) (by decide)) (ckK_el h6) hc16 t_2302 t_2304 s_X12_adds rfl (Nat.le_trans (cat_le _) (Nat.le_of_ble_eq_true rfl)) rfl ?_
  refine g_iload_n (j := 1) dX12_joins_27 rfl rfl ?_
  refine g_if_ne (tgt := 35) dX12_joins_28 (by decide) (fun c7 => ?_) (fun c7 => ?_)
  · rw [if_neg c7] at hf
    refine g_iload_n (j := 1) dX12_joins_35 rfl rfl ?_
    exact g_iret dX12_joins_36 rfl rfl hX2 hX1 hf
  · rw [if_pos c7] at hf
    refine g_iload_n (j := 2) dX12_joins_31 rfl rfl ?_
    refine g_goto (tgt := 36) dX12_joins_32 (by decide) ?_
    exact g_iret dX12_joins_36 rfl rfl hX2 hX1 hf

set_option maxRecDepth 100000 in
set_option maxHeartbeats 4000000 in
theorem bX12_joins_79 {X : Xt} {σf : St} {r : Int32} (hX1 : X.2.2.1 = σf) (hX2 : X.2.2.2 = .inl (some (.int r))) {σ : St} {x0 : Nat} {x1 : Int32} {x2 : Int32} {x3 : Int32} {y0 : Nat} {y1 : Int32} {y2 : Int32} (hf : fX12_joins_79 σ x0 x1 x2 x3 y0 y1 y2 = some (σf, r)) : G MtX12_joins X σ 79 [(0, rv x0), (1, .int x1), (2, .int x2), (3, .int x3)] [.int y2, .int y1, rv y0] := by
  unfold fX12_joins_79 at hf
  obtain ⟨_, h3, hf⟩ := ob hf
  obtain ⟨σ1, v2, eσ1, hf⟩ := cb_el hf
  refine g_callV_v dX12_joins_79 (wX12_takesAway _ eσ1) (okX12_takesAway _ (by decide) (by decide)) (ckK_el h3) hc16 t_2306 t_2308 s_X12_takesAway rfl (Nat.le_trans (cat_le _) (Nat.le_of_ble_eq_true rfl)) rfl ?_
  refine g_aload_n (j := 0) dX12_joins_82 rfl rfl ?_
  obtain ⟨v4, ev4, hf⟩ := ob hf
  refine g_getF dX12_joins_83 ev4 t_1969 hin16 hc16 (by decide) rfl ?_
  refine g_bipush (v := 6) dX12_joins_86 (by decide) ?_
  obtain ⟨v5, ev5, hf⟩ := ob hf
  refine g_iald dX12_joins_88 ev5 ?_
  refine g_if_ne (tgt := 96) dX12_joins_89 (by decide) (fun c6 => ?_) (fun c6 => ?_)
  · rw [if_neg c6] at hf
    refine g_iload_n (j := 3) dX12_joins_96 rfl rfl ?_
    refine g_if_eq (tgt := 104) dX12_joins_97 (by decide) (fun c7 => ?_) (fun c7 => ?_)
    · rw [if_pos c7] at hf
      refine g_iload_n (j := 1) dX12_joins_104 rfl rfl ?_
      exact g_iret dX12_joins_105 rfl rfl hX2 hX1 hf
    · rw [if_neg c7] at hf
      refine g_iload_n (j := 2) dX12_joins_100 rfl rfl ?_
      refine g_goto (tgt := 105) dX12_joins_101 (by decide) ?_
      exact g_iret dX12_joins_105 rfl rfl hX2 hX1 hf
  · rw [if_pos c6] at hf
    refine g_iconst (v := 0) dX12_joins_92 (by decide) ?_
    refine g_goto (tgt := 105) dX12_joins_93 (by decide) ?_
    exact g_iret dX12_joins_105 rfl rfl hX2 hX1 hf

set_option maxRecDepth 100000 in
set_option maxHeartbeats 4000000 in
theorem bX12_joins_64 {X : Xt} {σf : St} {r : Int32} (hX1 : X.2.2.1 = σf) (hX2 : X.2.2.2 = .inl (some (.int r))) {σ : St} {x0 : Nat} {x1 : Int32} {x2 : Int32} {x3 : Int32} {y0 : Nat} {y1 : Int32} {y2 : Int32} (hf : fX12_joins_64 σ x0 x1 x2 x3 y0 y1 y2 = some (σf, r)) : G MtX12_joins X σ 64 [(0, rv x0), (1, .int x1), (2, .int x2), (3, .int x3)] [.int y2, .int y1, rv y0] := by
  unfold fX12_joins_64 at hf
  obtain ⟨_, h3, hf⟩ := ob hf
  obtain ⟨σ1, v2, eσ1, hf⟩ := cb_el hf
  refine g_callV_v dX12_joins_64 (wX12_copies _ eσ1) (okX12_copies _ (by decide) (by decide)) (ckK_el h3) hc16 t_1927 t_1929 s_X12_copies rfl (Nat.le_trans (cat_le _) (Nat.le_of_ble_eq_true rfl)) rfl ?_
  refine g_aload_n (j := 0) dX12_joins_67 rfl rfl ?_
  refine g_bipush (v := 6) dX12_joins_68 (by decide) ?_
  refine g_iload_n (j := 3) dX12_joins_70 rfl rfl ?_
  refine g_if_eq (tgt := 78) dX12_joins_71 (by decide) (fun c4 => ?_) (fun c4 => ?_)
  · rw [if_pos c4] at hf
    refine g_iconst (v := 5) dX12_joins_78 (by decide) ?_
    exact bX12_joins_79 hX1 hX2 hf
  · rw [if_neg c4] at hf
    refine g_iconst (v := 4) dX12_joins_74 (by decide) ?_
    refine g_goto (tgt := 79) dX12_joins_75 (by decide) ?_
    exact bX12_joins_79 hX1 hX2 hf

set_option maxRecDepth 100000 in
set_option maxHeartbeats 4000000 in
theorem bX12_joins_51 {X : Xt} {σf : St} {r : Int32} (hX1 : X.2.2.1 = σf) (hX2 : X.2.2.2 = .inl (some (.int r))) {σ : St} {x0 : Nat} {x1 : Int32} {x2 : Int32} {y0 : Int32} (hf : fX12_joins_51 σ x0 x1 x2 y0 = some (σf, r)) : G MtX12_joins X σ 51 [(0, rv x0), (1, .int x1), (2, .int x2)] [.int y0] := by
  unfold fX12_joins_51 at hf
  refine g_istore_n (i := 3) (L' := [(3, .int y0), (0, rv x0), (1, .int x1), (2, .int x2)]) dX12_joins_51 rfl (Nat.le_of_ble_eq_true rfl) rfl ?_
  refine g_aload_n (j := 1) dX12_joins_52 rfl rfl ?_
  refine g_bipush (v := 6) dX12_joins_53 (by decide) ?_
  refine g_iload_n (j := 0) dX12_joins_55 rfl rfl ?_
  refine g_if_eq (tgt := 63) dX12_joins_56 (by decide) (fun c1 => ?_) (fun c1 => ?_)
  · rw [if_pos c1] at hf
    refine g_iconst (v := 4) dX12_joins_63 (by decide) ?_
    refine g_sub (L' := [(0, rv x0), (1, .int x1), (2, .int x2), (3, .int y0)]) [1, 2, 3, 0] rfl ?_
    exact bX12_joins_64 hX1 hX2 hf
  · rw [if_neg c1] at hf
    refine g_iconst (v := 5) dX12_joins_59 (by decide) ?_
    refine g_goto (tgt := 64) dX12_joins_60 (by decide) ?_
    refine g_sub (L' := [(0, rv x0), (1, .int x1), (2, .int x2), (3, .int y0)]) [1, 2, 3, 0] rfl ?_
    exact bX12_joins_64 hX1 hX2 hf

set_option maxRecDepth 100000 in
set_option maxHeartbeats 4000000 in
theorem wX12_joins (l : Launch) {σ σf : St} {x0 : Nat} {x1 : Int32} {x2 : Int32} {r : Int32} (hf : fX12_joins σ x0 x1 x2 = some (σf, r)) : Con MtX12_joins yX12_joins l σ [rv x0, .int x1, .int x2] σf (some (.int r)) := by
  refine Con.of (by decide +kernel) rfl (fun h => absurd (show false = true from h) (by decide)) (by simp only [sl_n, sl_r, sl_i, sl_l]; exact Nat.le_of_ble_eq_true rfl) ?_
  rw [show lv_args 0 [rv x0, .int x1, .int x2] = [(0, rv x0), (1, .int x1), (2, .int x2)] by simp only [la_n, la_r, la_i, la_l] <;> rfl]
  have hX1 : ((l, σ, σf, .inl (some (.int r))) : Xt).2.2.1 = σf := rfl
  have hX2 : ((l, σ, σf, .inl (some (.int r))) : Xt).2.2.2 = .inl (some (.int r)) := rfl
  unfold fX12_joins at hf
  refine g_iload_n (j := 1) dX12_joins_0 rfl rfl ?_
  refine g_if_eq (tgt := 13) dX12_joins_1 (by decide) (fun c1 => ?_) (fun c1 => ?_)
  · rw [if_pos c1] at hf
    exact bX12_joins_13 hX1 hX2 hf
  · rw [if_neg c1] at hf
    refine g_iload_n (j := 2) dX12_joins_4 rfl rfl ?_
    refine g_if_eq (tgt := 13) dX12_joins_5 (by decide) (fun c2 => ?_) (fun c2 => ?_)
    · rw [if_pos c2] at hf
      exact bX12_joins_13 hX1 hX2 hf
    · rw [if_neg c2] at hf
      refine g_iload_n (j := 1) dX12_joins_8 rfl rfl ?_
      refine g_iload_n (j := 2) dX12_joins_9 rfl rfl ?_
      refine g_icmp_ne (tgt := 37) dX12_joins_10 (by decide) (fun c3 => ?_) (fun c3 => ?_)
      · rw [if_neg c3] at hf
        refine g_aload_n (j := 0) dX12_joins_37 rfl rfl ?_
        refine g_iconst (v := 4) dX12_joins_38 (by decide) ?_
        refine g_iconst (v := 5) dX12_joins_39 (by decide) ?_
        obtain ⟨_, h6, hf⟩ := ob hf
        obtain ⟨σ4, v5, eσ4, hf⟩ := cb_el hf
        refine g_callV_i dX12_joins_40 (wX12_compares _ eσ4) (okX12_compares _ (by decide) (by decide)) (ckK_el h6) hc16 t_1935 t_1937 s_X12_compares rfl (Nat.le_trans (cat_le _) (Nat.le_of_ble_eq_true rfl)) rfl ?_
        refine g_if_ge (tgt := 50) dX12_joins_43 (by decide) (fun c7 => ?_) (fun c7 => ?_)
        · rw [if_pos c7] at hf
          refine g_iconst (v := 0) dX12_joins_50 (by decide) ?_
          exact bX12_joins_51 hX1 hX2 hf
        · rw [if_neg c7] at hf
          refine g_iconst (v := 1) dX12_joins_46 (by decide) ?_
          refine g_goto (tgt := 51) dX12_joins_47 (by decide) ?_
          exact bX12_joins_51 hX1 hX2 hf
      · rw [if_pos c3] at hf
        exact bX12_joins_13 hX1 hX2 hf

theorem okX12_joins (M : Mt) (h1 : 3 + 1 ≤ M.2.2.2.2.1) (h2 : 8 + (4 + 11) + 132 ≤ M.2.2.2.2.2.1) : CallOk M MtX12_joins yX12_joins 2 := ⟨t_2446, h1, h2, ⟨by decide, by decide⟩, by decide +kernel, t_16⟩
abbrev MtX12_sums : Mt := (cX12_sums, 5, "ExactlySaidModel", (Option.some Jvm.ClassFile.FieldType.int), 4, 155, false)
set_option maxRecDepth 100000 in
set_option maxHeartbeats 4000000 in
theorem bX12_sums_87 {X : Xt} {σf : St} {r : Int32} (hX1 : X.2.2.1 = σf) (hX2 : X.2.2.2 = .inl (some (.int r))) {σ : St} {x0 : Nat} {x2 : Int32} {x4 : Int32} (hf : fX12_sums_87 σ x0 x2 x4 = some (σf, r)) : G MtX12_sums X σ 87 [(0, rv x0), (2, .int x2), (4, .int x4)] [] := by
  unfold fX12_sums_87 at hf
  refine g_aload_n (j := 0) dX12_sums_87 rfl rfl ?_
  refine g_aload_n (j := 0) dX12_sums_88 rfl rfl ?_
  obtain ⟨v1, ev1, hf⟩ := ob hf
  refine g_getF dX12_sums_89 ev1 t_1970 hin16 hc16 (by decide) rfl ?_
  refine g_iload_n (j := 1) dX12_sums_92 rfl rfl ?_
  obtain ⟨v2, ev2, hf⟩ := ob hf
  refine g_iald dX12_sums_93 ev2 ?_
  refine g_iload (j := 2) dX12_sums_94 rfl ?_
  obtain ⟨_, h5, hf⟩ := ob hf
  obtain ⟨σ3, v4, eσ3, hf⟩ := cb_el hf
  refine g_callV_i dX12_sums_96 (wX12_joins _ eσ3) (okX12_joins _ (by decide) (by decide)) (ckK_el h5) hc16 t_2443 t_2445 s_X12_joins rfl (Nat.le_trans (cat_le _) (Nat.le_of_ble_eq_true rfl)) rfl ?_
  exact g_iret dX12_sums_99 rfl rfl hX2 hX1 hf

set_option maxRecDepth 100000 in
set_option maxHeartbeats 4000000 in
theorem bX12_sums_22 {X : Xt} {σf : St} {r : Int32} (hX1 : X.2.2.1 = σf) (hX2 : X.2.2.2 = .inl (some (.int r))) {σ : St} {x0 : Nat} {x1 : Int32} {x2 : Int32} {x3 : Int32} {y0 : Int32} (hf : fX12_sums_22 σ x0 x1 x2 x3 y0 = some (σf, r)) : G MtX12_sums X σ 22 [(0, rv x0), (1, .int x1), (2, .int x2), (3, .int x3)] [.int y0] := by
  unfold fX12_sums_22 at hf
  refine g_istore (i := 4) (L' := [(4, .int y0), (0, rv x0), (1, .int x1), (2, .int x2), (3, .int x3)]) dX12_sums_22 (Nat.le_of_ble_eq_true rfl) rfl ?_
  refine g_aload_n (j := 1) dX12_sums_24 rfl rfl ?_
  refine g_iload_n (j := 3) dX12_sums_25 rfl rfl ?_
  refine g_iload_n (j := 4) dX12_sums_26 rfl rfl ?_
  obtain ⟨_, h3, hf⟩ := ob hf
  obtain ⟨σ1, v2, eσ1, hf⟩ := cb_el hf
  refine g_callV_v dX12_sums_27 (wX12_loadsBoth _ eσ1) (okX12_loadsBoth _ (by decide) (by decide)) (ckK_el h3) hc16 t_2435 t_2437 s_X12_loadsBoth rfl (Nat.le_trans (cat_le _) (Nat.le_of_ble_eq_true rfl)) rfl ?_
  refine g_iload_n (j := 2) dX12_sums_30 rfl rfl ?_
  refine g_bipush (v := 16) dX12_sums_31 (by decide) ?_
  refine g_icmp_ne (tgt := 65) dX12_sums_33 (by decide) (fun c4 => ?_) (fun c4 => ?_)
  · rw [if_neg c4] at hf
    refine g_aload_n (j := 1) dX12_sums_65 rfl rfl ?_
    refine g_iconst (v := 4) dX12_sums_66 (by decide) ?_
    refine g_iconst (v := 0) dX12_sums_67 (by decide) ?_
    refine g_iconst (v := 3) dX12_sums_68 (by decide) ?_
    obtain ⟨_, h7, hf⟩ := ob hf
    obtain ⟨σ5, v6, eσ5, hf⟩ := cb_el hf
    refine g_callV_v dX12_sums_69 (wX12_multiplies _ eσ5) (okX12_multiplies _ (by decide) (by decide)) (ckK_el h7) hc16 t_2310 t_2312 s_X12_multiplies rfl (Nat.le_trans (cat_le _) (Nat.le_of_ble_eq_true rfl)) rfl ?_
    refine g_aload_n (j := 1) dX12_sums_72 rfl rfl ?_
    refine g_iconst (v := 5) dX12_sums_73 (by decide) ?_
    refine g_iconst (v := 2) dX12_sums_74 (by decide) ?_
    refine g_iconst (v := 1) dX12_sums_75 (by decide) ?_
    obtain ⟨_, h10, hf⟩ := ob hf
    obtain ⟨σ8, v9, eσ8, hf⟩ := cb_el hf
    refine g_callV_v dX12_sums_76 (wX12_multiplies _ eσ8) (okX12_multiplies _ (by decide) (by decide)) (ckK_el h10) hc16 t_2310 t_2312 s_X12_multiplies rfl (Nat.le_trans (cat_le _) (Nat.le_of_ble_eq_true rfl)) rfl ?_
    refine g_aload_n (j := 1) dX12_sums_79 rfl rfl ?_
    refine g_bipush (v := 7) dX12_sums_80 (by decide) ?_
    refine g_iconst (v := 1) dX12_sums_82 (by decide) ?_
    refine g_iconst (v := 3) dX12_sums_83 (by decide) ?_
    obtain ⟨_, h13, hf⟩ := ob hf
    obtain ⟨σ11, v12, eσ11, hf⟩ := cb_el hf
    refine g_callV_v dX12_sums_84 (wX12_multiplies _ eσ11) (okX12_multiplies _ (by decide) (by decide)) (ckK_el h13) hc16 t_2310 t_2312 s_X12_multiplies rfl (Nat.le_trans (cat_le _) (Nat.le_of_ble_eq_true rfl)) rfl ?_
    refine g_sub (L' := [(0, rv x0), (2, .int x2), (4, .int y0)]) [1, 3, 0] rfl ?_
    exact bX12_sums_87 hX1 hX2 hf
  · rw [if_pos c4] at hf
    refine g_aload_n (j := 1) dX12_sums_36 rfl rfl ?_
    refine g_iconst (v := 4) dX12_sums_37 (by decide) ?_
    refine g_iconst (v := 0) dX12_sums_38 (by decide) ?_
    obtain ⟨_, h16, hf⟩ := ob hf
    obtain ⟨σ14, v15, eσ14, hf⟩ := cb_el hf
    refine g_callV_v dX12_sums_39 (wX12_copies _ eσ14) (okX12_copies _ (by decide) (by decide)) (ckK_el h16) hc16 t_1927 t_1929 s_X12_copies rfl (Nat.le_trans (cat_le _) (Nat.le_of_ble_eq_true rfl)) rfl ?_
    refine g_aload_n (j := 1) dX12_sums_42 rfl rfl ?_
    refine g_iconst (v := 5) dX12_sums_43 (by decide) ?_
    refine g_iconst (v := 2) dX12_sums_44 (by decide) ?_
    obtain ⟨_, h19, hf⟩ := ob hf
    obtain ⟨σ17, v18, eσ17, hf⟩ := cb_el hf
    refine g_callV_v dX12_sums_45 (wX12_copies _ eσ17) (okX12_copies _ (by decide) (by decide)) (ckK_el h19) hc16 t_1927 t_1929 s_X12_copies rfl (Nat.le_trans (cat_le _) (Nat.le_of_ble_eq_true rfl)) rfl ?_
    refine g_aload_n (j := 1) dX12_sums_48 rfl rfl ?_
    refine g_bipush (v := 7) dX12_sums_49 (by decide) ?_
    refine g_iconst (v := 1) dX12_sums_51 (by decide) ?_
    obtain ⟨_, h22, hf⟩ := ob hf
    obtain ⟨σ20, v21, eσ20, hf⟩ := cb_el hf
    refine g_callV_v dX12_sums_52 (wX12_copies _ eσ20) (okX12_copies _ (by decide) (by decide)) (ckK_el h22) hc16 t_1927 t_1929 s_X12_copies rfl (Nat.le_trans (cat_le _) (Nat.le_of_ble_eq_true rfl)) rfl ?_
    refine g_aload_n (j := 1) dX12_sums_55 rfl rfl ?_
    refine g_bipush (v := 7) dX12_sums_56 (by decide) ?_
    refine g_iconst (v := 3) dX12_sums_58 (by decide) ?_
    obtain ⟨_, h25, hf⟩ := ob hf
    obtain ⟨σ23, v24, eσ23, hf⟩ := cb_el hf
    refine g_callV_v dX12_sums_59 (wX12_adds _ eσ23) (okX12_adds _ (by decide) (by decide)) (ckK_el h25) hc16 t_2302 t_2304 s_X12_adds rfl (Nat.le_trans (cat_le _) (Nat.le_of_ble_eq_true rfl)) rfl ?_
    refine g_goto (tgt := 87) dX12_sums_62 (by decide) ?_
    refine g_sub (L' := [(0, rv x0), (2, .int x2), (4, .int y0)]) [1, 3, 0] rfl ?_
    exact bX12_sums_87 hX1 hX2 hf

set_option maxRecDepth 100000 in
set_option maxHeartbeats 4000000 in
theorem wX12_sums (l : Launch) {σ σf : St} {x0 : Nat} {x1 : Int32} {x2 : Int32} {x3 : Int32} {r : Int32} (hf : fX12_sums σ x0 x1 x2 x3 = some (σf, r)) : Con MtX12_sums yX12_sums l σ [rv x0, .int x1, .int x2, .int x3] σf (some (.int r)) := by
  refine Con.of (by decide +kernel) rfl (fun h => absurd (show false = true from h) (by decide)) (by simp only [sl_n, sl_r, sl_i, sl_l]; exact Nat.le_of_ble_eq_true rfl) ?_
  rw [show lv_args 0 [rv x0, .int x1, .int x2, .int x3] = [(0, rv x0), (1, .int x1), (2, .int x2), (3, .int x3)] by simp only [la_n, la_r, la_i, la_l] <;> rfl]
  have hX1 : ((l, σ, σf, .inl (some (.int r))) : Xt).2.2.1 = σf := rfl
  have hX2 : ((l, σ, σf, .inl (some (.int r))) : Xt).2.2.2 = .inl (some (.int r)) := rfl
  unfold fX12_sums at hf
  refine g_iload_n (j := 1) dX12_sums_0 rfl rfl ?_
  refine g_iconst (v := 2) dX12_sums_1 (by decide) ?_
  refine g_icmp_ne (tgt := 16) dX12_sums_2 (by decide) (fun c1 => ?_) (fun c1 => ?_)
  · rw [if_neg c1] at hf
    refine g_aload_n (j := 0) dX12_sums_16 rfl rfl ?_
    obtain ⟨v2, ev2, hf⟩ := ob hf
    refine g_getF dX12_sums_17 ev2 t_1970 hin16 hc16 (by decide) rfl ?_
    refine g_iload_n (j := 3) dX12_sums_20 rfl rfl ?_
    obtain ⟨v3, ev3, hf⟩ := ob hf
    refine g_iald dX12_sums_21 ev3 ?_
    exact bX12_sums_22 hX1 hX2 hf
  · rw [if_pos c1] at hf
    refine g_iconst (v := 0) dX12_sums_5 (by decide) ?_
    refine g_aload_n (j := 0) dX12_sums_6 rfl rfl ?_
    obtain ⟨v4, ev4, hf⟩ := ob hf
    refine g_getF dX12_sums_7 ev4 t_1970 hin16 hc16 (by decide) rfl ?_
    refine g_iload_n (j := 3) dX12_sums_10 rfl rfl ?_
    obtain ⟨v5, ev5, hf⟩ := ob hf
    refine g_iald dX12_sums_11 ev5 ?_
    refine g_isub dX12_sums_12 ?_
    refine g_goto (tgt := 22) dX12_sums_13 (by decide) ?_
    exact bX12_sums_22 hX1 hX2 hf

theorem okX12_sums (M : Mt) (h1 : 4 + 1 ≤ M.2.2.2.2.1) (h2 : 8 + (5 + 11) + 155 ≤ M.2.2.2.2.2.1) : CallOk M MtX12_sums yX12_sums 3 := ⟨t_2434, h1, h2, ⟨by decide, by decide⟩, by decide +kernel, t_16⟩
abbrev MtX12_products : Mt := (cX12_products, 4, "ExactlySaidModel", (Option.some Jvm.ClassFile.FieldType.int), 4, 152, false)
set_option maxRecDepth 100000 in
set_option maxHeartbeats 4000000 in
theorem bX12_products_37 {X : Xt} {σf : St} {r : Int32} (hX1 : X.2.2.1 = σf) (hX2 : X.2.2.2 = .inl (some (.int r))) {σ : St} {x0 : Nat} {x2 : Int32} {x3 : Int32} {y0 : Nat} {y1 : Int32} {y2 : Int32} {y3 : Int32} (hf : fX12_products_37 σ x0 x2 x3 y0 y1 y2 y3 = some (σf, r)) : G MtX12_products X σ 37 [(0, rv x0), (2, .int x2), (3, .int x3)] [.int y3, .int y2, .int y1, rv y0] := by
  unfold fX12_products_37 at hf
  obtain ⟨_, h3, hf⟩ := ob hf
  obtain ⟨σ1, v2, eσ1, hf⟩ := cb_el hf
  refine g_callV_v dX12_products_37 (wX12_multiplies _ eσ1) (okX12_multiplies _ (by decide) (by decide)) (ckK_el h3) hc16 t_2310 t_2312 s_X12_multiplies rfl (Nat.le_trans (cat_le _) (Nat.le_of_ble_eq_true rfl)) rfl ?_
  refine g_aload_n (j := 0) dX12_products_40 rfl rfl ?_
  obtain ⟨v4, ev4, hf⟩ := ob hf
  refine g_getF dX12_products_41 ev4 t_1970 hin16 hc16 (by decide) rfl ?_
  refine g_iload_n (j := 1) dX12_products_44 rfl rfl ?_
  obtain ⟨v5, ev5, hf⟩ := ob hf
  refine g_iald dX12_products_45 ev5 ?_
  refine g_aload_n (j := 0) dX12_products_46 rfl rfl ?_
  obtain ⟨v6, ev6, hf⟩ := ob hf
  refine g_getF dX12_products_47 ev6 t_1970 hin16 hc16 (by decide) rfl ?_
  refine g_iload_n (j := 2) dX12_products_50 rfl rfl ?_
  obtain ⟨v7, ev7, hf⟩ := ob hf
  refine g_iald dX12_products_51 ev7 ?_
  refine g_imul dX12_products_52 ?_
  exact g_iret dX12_products_53 rfl rfl hX2 hX1 hf

set_option maxRecDepth 100000 in
set_option maxHeartbeats 4000000 in
theorem bX12_products_20 {X : Xt} {σf : St} {r : Int32} (hX1 : X.2.2.1 = σf) (hX2 : X.2.2.2 = .inl (some (.int r))) {σ : St} {x0 : Nat} {x1 : Int32} {x2 : Int32} {x3 : Int32} {y0 : Nat} {y1 : Int32} {y2 : Int32} {y3 : Int32} (hf : fX12_products_20 σ x0 x1 x2 x3 y0 y1 y2 y3 = some (σf, r)) : G MtX12_products X σ 20 [(0, rv x0), (1, .int x1), (2, .int x2), (3, .int x3)] [.int y3, .int y2, .int y1, rv y0] := by
  unfold fX12_products_20 at hf
  obtain ⟨_, h3, hf⟩ := ob hf
  obtain ⟨σ1, v2, eσ1, hf⟩ := cb_el hf
  refine g_callV_v dX12_products_20 (wX12_multiplies _ eσ1) (okX12_multiplies _ (by decide) (by decide)) (ckK_el h3) hc16 t_2310 t_2312 s_X12_multiplies rfl (Nat.le_trans (cat_le _) (Nat.le_of_ble_eq_true rfl)) rfl ?_
  refine g_aload_n (j := 0) dX12_products_23 rfl rfl ?_
  refine g_bipush (v := 7) dX12_products_24 (by decide) ?_
  refine g_iconst (v := 1) dX12_products_26 (by decide) ?_
  refine g_iload_n (j := 1) dX12_products_27 rfl rfl ?_
  refine g_iconst (v := 3) dX12_products_28 (by decide) ?_
  refine g_icmp_ne (tgt := 36) dX12_products_29 (by decide) (fun c4 => ?_) (fun c4 => ?_)
  · rw [if_neg c4] at hf
    refine g_iconst (v := 2) dX12_products_36 (by decide) ?_
    refine g_sub (L' := [(0, rv x0), (2, .int x2), (3, .int x3)]) [0, 2, 3] rfl ?_
    exact bX12_products_37 hX1 hX2 hf
  · rw [if_pos c4] at hf
    refine g_iconst (v := 3) dX12_products_32 (by decide) ?_
    refine g_goto (tgt := 37) dX12_products_33 (by decide) ?_
    refine g_sub (L' := [(0, rv x0), (2, .int x2), (3, .int x3)]) [0, 2, 3] rfl ?_
    exact bX12_products_37 hX1 hX2 hf

set_option maxRecDepth 100000 in
set_option maxHeartbeats 4000000 in
theorem wX12_products (l : Launch) {σ σf : St} {x0 : Nat} {x1 : Int32} {x2 : Int32} {x3 : Int32} {r : Int32} (hf : fX12_products σ x0 x1 x2 x3 = some (σf, r)) : Con MtX12_products yX12_products l σ [rv x0, .int x1, .int x2, .int x3] σf (some (.int r)) := by
  refine Con.of (by decide +kernel) rfl (fun h => absurd (show false = true from h) (by decide)) (by simp only [sl_n, sl_r, sl_i, sl_l]; exact Nat.le_of_ble_eq_true rfl) ?_
  rw [show lv_args 0 [rv x0, .int x1, .int x2, .int x3] = [(0, rv x0), (1, .int x1), (2, .int x2), (3, .int x3)] by simp only [la_n, la_r, la_i, la_l] <;> rfl]
  have hX1 : ((l, σ, σf, .inl (some (.int r))) : Xt).2.2.1 = σf := rfl
  have hX2 : ((l, σ, σf, .inl (some (.int r))) : Xt).2.2.2 = .inl (some (.int r)) := rfl
  unfold fX12_products at hf
  refine g_aload_n (j := 0) dX12_products_0 rfl rfl ?_
  refine g_iload_n (j := 2) dX12_products_1 rfl rfl ?_
  refine g_iload_n (j := 3) dX12_products_2 rfl rfl ?_
  obtain ⟨_, h3, hf⟩ := ob hf
  obtain ⟨σ1, v2, eσ1, hf⟩ := cb_el hf
  refine g_callV_v dX12_products_3 (wX12_loadsBoth _ eσ1) (okX12_loadsBoth _ (by decide) (by decide)) (ckK_el h3) hc16 t_2435 t_2437 s_X12_loadsBoth rfl (Nat.le_trans (cat_le _) (Nat.le_of_ble_eq_true rfl)) rfl ?_
  refine g_aload_n (j := 0) dX12_products_6 rfl rfl ?_
  refine g_bipush (v := 6) dX12_products_7 (by decide) ?_
  refine g_iconst (v := 0) dX12_products_9 (by decide) ?_
  refine g_iload_n (j := 1) dX12_products_10 rfl rfl ?_
  refine g_iconst (v := 3) dX12_products_11 (by decide) ?_
  refine g_icmp_ne (tgt := 19) dX12_products_12 (by decide) (fun c4 => ?_) (fun c4 => ?_)
  · rw [if_neg c4] at hf
    refine g_iconst (v := 3) dX12_products_19 (by decide) ?_
    exact bX12_products_20 hX1 hX2 hf
  · rw [if_pos c4] at hf
    refine g_iconst (v := 2) dX12_products_15 (by decide) ?_
    refine g_goto (tgt := 20) dX12_products_16 (by decide) ?_
    exact bX12_products_20 hX1 hX2 hf

theorem okX12_products (M : Mt) (h1 : 4 + 1 ≤ M.2.2.2.2.1) (h2 : 8 + (4 + 11) + 152 ≤ M.2.2.2.2.2.1) : CallOk M MtX12_products yX12_products 3 := ⟨t_2450, h1, h2, ⟨by decide, by decide⟩, by decide +kernel, t_16⟩
abbrev MtX12_remains : Mt := (cX12_remains, 3, "ExactlySaidModel", (Option.some Jvm.ClassFile.FieldType.int), 4, 168, false)
set_option maxRecDepth 100000 in
set_option maxHeartbeats 4000000 in
theorem bX12_remains_82 {X : Xt} {σf : St} {r : Int32} (hX1 : X.2.2.1 = σf) (hX2 : X.2.2.2 = .inl (some (.int r))) {σ : St} {x0 : Nat} {x2 : Int32} (hf : fX12_remains_82 σ x0 x2 = some (σf, r)) : G MtX12_remains X σ 82 [(0, rv x0), (2, .int x2)] [] := by
  unfold fX12_remains_82 at hf
  refine g_aload_n (j := 0) dX12_remains_82 rfl rfl ?_
  obtain ⟨v1, ev1, hf⟩ := ob hf
  refine g_getF dX12_remains_83 ev1 t_1970 hin16 hc16 (by decide) rfl ?_
  refine g_iload_n (j := 1) dX12_remains_86 rfl rfl ?_
  obtain ⟨v2, ev2, hf⟩ := ob hf
  refine g_iald dX12_remains_87 ev2 ?_
  exact g_iret dX12_remains_88 rfl rfl hX2 hX1 hf

set_option maxRecDepth 100000 in
set_option maxHeartbeats 4000000 in
theorem wX12_remains (l : Launch) {σ σf : St} {x0 : Nat} {x1 : Int32} {x2 : Int32} {r : Int32} (hf : fX12_remains σ x0 x1 x2 = some (σf, r)) : Con MtX12_remains yX12_remains l σ [rv x0, .int x1, .int x2] σf (some (.int r)) := by
  refine Con.of (by decide +kernel) rfl (fun h => absurd (show false = true from h) (by decide)) (by simp only [sl_n, sl_r, sl_i, sl_l]; exact Nat.le_of_ble_eq_true rfl) ?_
  rw [show lv_args 0 [rv x0, .int x1, .int x2] = [(0, rv x0), (1, .int x1), (2, .int x2)] by simp only [la_n, la_r, la_i, la_l] <;> rfl]
  have hX1 : ((l, σ, σf, .inl (some (.int r))) : Xt).2.2.1 = σf := rfl
  have hX2 : ((l, σ, σf, .inl (some (.int r))) : Xt).2.2.2 = .inl (some (.int r)) := rfl
  unfold fX12_remains at hf
  refine g_aload_n (j := 0) dX12_remains_0 rfl rfl ?_
  refine g_iload_n (j := 1) dX12_remains_1 rfl rfl ?_
  refine g_iload_n (j := 2) dX12_remains_2 rfl rfl ?_
  obtain ⟨_, h3, hf⟩ := ob hf
  obtain ⟨σ1, v2, eσ1, hf⟩ := cb_el hf
  refine g_callV_v dX12_remains_3 (wX12_loadsBoth _ eσ1) (okX12_loadsBoth _ (by decide) (by decide)) (ckK_el h3) hc16 t_2435 t_2437 s_X12_loadsBoth rfl (Nat.le_trans (cat_le _) (Nat.le_of_ble_eq_true rfl)) rfl ?_
  refine g_aload_n (j := 0) dX12_remains_6 rfl rfl ?_
  refine g_iconst (v := 4) dX12_remains_7 (by decide) ?_
  refine g_iconst (v := 0) dX12_remains_8 (by decide) ?_
  refine g_iconst (v := 3) dX12_remains_9 (by decide) ?_
  obtain ⟨_, h6, hf⟩ := ob hf
  obtain ⟨σ4, v5, eσ4, hf⟩ := cb_el hf
  refine g_callV_v dX12_remains_10 (wX12_multiplies _ eσ4) (okX12_multiplies _ (by decide) (by decide)) (ckK_el h6) hc16 t_2310 t_2312 s_X12_multiplies rfl (Nat.le_trans (cat_le _) (Nat.le_of_ble_eq_true rfl)) rfl ?_
  refine g_aload_n (j := 0) dX12_remains_13 rfl rfl ?_
  refine g_iconst (v := 5) dX12_remains_14 (by decide) ?_
  refine g_iconst (v := 2) dX12_remains_15 (by decide) ?_
  refine g_iconst (v := 1) dX12_remains_16 (by decide) ?_
  obtain ⟨_, h9, hf⟩ := ob hf
  obtain ⟨σ7, v8, eσ7, hf⟩ := cb_el hf
  refine g_callV_v dX12_remains_17 (wX12_multiplies _ eσ7) (okX12_multiplies _ (by decide) (by decide)) (ckK_el h9) hc16 t_2310 t_2312 s_X12_multiplies rfl (Nat.le_trans (cat_le _) (Nat.le_of_ble_eq_true rfl)) rfl ?_
  refine g_aload_n (j := 0) dX12_remains_20 rfl rfl ?_
  refine g_bipush (v := 7) dX12_remains_21 (by decide) ?_
  refine g_iconst (v := 1) dX12_remains_23 (by decide) ?_
  refine g_iconst (v := 3) dX12_remains_24 (by decide) ?_
  obtain ⟨_, h12, hf⟩ := ob hf
  obtain ⟨σ10, v11, eσ10, hf⟩ := cb_el hf
  refine g_callV_v dX12_remains_25 (wX12_multiplies _ eσ10) (okX12_multiplies _ (by decide) (by decide)) (ckK_el h12) hc16 t_2310 t_2312 s_X12_multiplies rfl (Nat.le_trans (cat_le _) (Nat.le_of_ble_eq_true rfl)) rfl ?_
  refine g_aload_n (j := 0) dX12_remains_28 rfl rfl ?_
  refine g_iconst (v := 4) dX12_remains_29 (by decide) ?_
  refine g_iconst (v := 5) dX12_remains_30 (by decide) ?_
  obtain ⟨_, h15, hf⟩ := ob hf
  obtain ⟨σ13, v14, eσ13, hf⟩ := cb_el hf
  refine g_callV_v dX12_remains_31 (wX12_divides _ eσ13) (okX12_divides _ (by decide) (by decide)) (ckK_el h15) hc16 t_1931 t_1933 s_X12_divides rfl (Nat.le_trans (cat_le _) (Nat.le_of_ble_eq_true rfl)) rfl ?_
  refine g_aload_n (j := 0) dX12_remains_34 rfl rfl ?_
  refine g_bipush (v := 6) dX12_remains_35 (by decide) ?_
  refine g_bipush (v := 10) dX12_remains_37 (by decide) ?_
  obtain ⟨_, h18, hf⟩ := ob hf
  obtain ⟨σ16, v17, eσ16, hf⟩ := cb_el hf
  refine g_callV_v dX12_remains_39 (wX12_copies _ eσ16) (okX12_copies _ (by decide) (by decide)) (ckK_el h18) hc16 t_1927 t_1929 s_X12_copies rfl (Nat.le_trans (cat_le _) (Nat.le_of_ble_eq_true rfl)) rfl ?_
  refine g_aload_n (j := 0) dX12_remains_42 rfl rfl ?_
  obtain ⟨v19, ev19, hf⟩ := ob hf
  refine g_getF dX12_remains_43 ev19 t_1969 hin16 hc16 (by decide) rfl ?_
  refine g_bipush (v := 6) dX12_remains_46 (by decide) ?_
  obtain ⟨v20, ev20, hf⟩ := ob hf
  refine g_iald dX12_remains_48 ev20 ?_
  refine g_if_le (tgt := 82) dX12_remains_49 (by decide) (fun c21 => ?_) (fun c21 => ?_)
  · rw [if_pos c21] at hf
    refine g_sub (L' := [(0, rv x0), (2, .int x2)]) [0, 2] rfl ?_
    exact bX12_remains_82 hX1 hX2 hf
  · rw [if_neg c21] at hf
    refine g_aload_n (j := 0) dX12_remains_52 rfl rfl ?_
    obtain ⟨v22, ev22, hf⟩ := ob hf
    refine g_getF dX12_remains_53 ev22 t_1970 hin16 hc16 (by decide) rfl ?_
    refine g_iload_n (j := 1) dX12_remains_56 rfl rfl ?_
    obtain ⟨v23, ev23, hf⟩ := ob hf
    refine g_iald dX12_remains_57 ev23 ?_
    refine g_aload_n (j := 0) dX12_remains_58 rfl rfl ?_
    obtain ⟨v24, ev24, hf⟩ := ob hf
    refine g_getF dX12_remains_59 ev24 t_1970 hin16 hc16 (by decide) rfl ?_
    refine g_iload_n (j := 2) dX12_remains_62 rfl rfl ?_
    obtain ⟨v25, ev25, hf⟩ := ob hf
    refine g_iald dX12_remains_63 ev25 ?_
    refine g_icmp_eq (tgt := 82) dX12_remains_64 (by decide) (fun c26 => ?_) (fun c26 => ?_)
    · rw [if_pos c26] at hf
      refine g_sub (L' := [(0, rv x0), (2, .int x2)]) [0, 2] rfl ?_
      exact bX12_remains_82 hX1 hX2 hf
    · rw [if_neg c26] at hf
      refine g_aload_n (j := 0) dX12_remains_67 rfl rfl ?_
      refine g_bipush (v := 6) dX12_remains_68 (by decide) ?_
      refine g_iconst (v := 5) dX12_remains_70 (by decide) ?_
      obtain ⟨_, h29, hf⟩ := ob hf
      obtain ⟨σ27, v28, eσ27, hf⟩ := cb_el hf
      refine g_callV_v dX12_remains_71 (wX12_copies _ eσ27) (okX12_copies _ (by decide) (by decide)) (ckK_el h29) hc16 t_1927 t_1929 s_X12_copies rfl (Nat.le_trans (cat_le _) (Nat.le_of_ble_eq_true rfl)) rfl ?_
      refine g_aload_n (j := 0) dX12_remains_74 rfl rfl ?_
      refine g_bipush (v := 6) dX12_remains_75 (by decide) ?_
      refine g_bipush (v := 10) dX12_remains_77 (by decide) ?_
      obtain ⟨_, h32, hf⟩ := ob hf
      obtain ⟨σ30, v31, eσ30, hf⟩ := cb_el hf
      refine g_callV_v dX12_remains_79 (wX12_takesAway _ eσ30) (okX12_takesAway _ (by decide) (by decide)) (ckK_el h32) hc16 t_2306 t_2308 s_X12_takesAway rfl (Nat.le_trans (cat_le _) (Nat.le_of_ble_eq_true rfl)) rfl ?_
      refine g_sub (L' := [(0, rv x0), (2, .int x2)]) [0, 2] rfl ?_
      exact bX12_remains_82 hX1 hX2 hf

theorem okX12_remains (M : Mt) (h1 : 4 + 1 ≤ M.2.2.2.2.1) (h2 : 8 + (3 + 11) + 168 ≤ M.2.2.2.2.2.1) : CallOk M MtX12_remains yX12_remains 2 := ⟨t_2454, h1, h2, ⟨by decide, by decide⟩, by decide +kernel, t_16⟩
abbrev MtX12_powers : Mt := (cX12_powers, 5, "ExactlySaidModel", (Option.some Jvm.ClassFile.FieldType.int), 3, 133, false)
set_option maxRecDepth 100000 in
set_option maxHeartbeats 4000000 in
theorem bX12_powers_119 {X : Xt} {σf : St} {r : Int32} (hX1 : X.2.2.1 = σf) (hX2 : X.2.2.2 = .inl (some (.int r))) {σ : St} {x0 : Nat} {x1 : Int32} {x3 : Int32} (hf : fX12_powers_119 σ x0 x1 x3 = some (σf, r)) : G MtX12_powers X σ 119 [(0, rv x0), (1, .int x1), (3, .int x3)] [] := by
  unfold fX12_powers_119 at hf
  refine g_aload_n (j := 0) dX12_powers_119 rfl rfl ?_
  obtain ⟨v1, ev1, hf⟩ := ob hf
  refine g_getF dX12_powers_120 ev1 t_1970 hin16 hc16 (by decide) rfl ?_
  refine g_iload_n (j := 1) dX12_powers_123 rfl rfl ?_
  obtain ⟨v2, ev2, hf⟩ := ob hf
  refine g_iald dX12_powers_124 ev2 ?_
  refine g_if_ge (tgt := 139) dX12_powers_125 (by decide) (fun c3 => ?_) (fun c3 => ?_)
  · rw [if_pos c3] at hf
    refine g_iconst (v := 1) dX12_powers_139 (by decide) ?_
    exact g_iret dX12_powers_140 rfl rfl hX2 hX1 hf
  · rw [if_neg c3] at hf
    refine g_iload_n (j := 2) dX12_powers_128 rfl rfl ?_
    refine g_iconst (v := 2) dX12_powers_129 (by decide) ?_
    refine g_irem dX12_powers_130 (by decide) ?_
    refine g_iconst (v := 1) dX12_powers_131 (by decide) ?_
    refine g_icmp_ne (tgt := 139) dX12_powers_132 (by decide) (fun c4 => ?_) (fun c4 => ?_)
    · rw [if_neg c4] at hf
      refine g_iconst (v := 1) dX12_powers_139 (by decide) ?_
      exact g_iret dX12_powers_140 rfl rfl hX2 hX1 hf
    · rw [if_pos c4] at hf
      refine g_iconst (v := (-1)) dX12_powers_135 (by decide) ?_
      refine g_goto (tgt := 140) dX12_powers_136 (by decide) ?_
      exact g_iret dX12_powers_140 rfl rfl hX2 hX1 hf

set_option maxRecDepth 100000 in
set_option maxHeartbeats 4000000 in
theorem bX12_powers_59 {X : Xt} {σf : St} {r : Int32} (hX1 : X.2.2.1 = σf) (hX2 : X.2.2.2 = .inl (some (.int r))) : ∀ (n : Nat) (σ : St) (x0 : Nat) (x1 : Int32) (x3 : Int32) (x4 : Int32), fX12_powers_59 n σ x0 x1 x3 x4 = some (σf, r) → G MtX12_powers X σ 59 [(0, rv x0), (1, .int x1), (3, .int x3), (4, .int x4)] [] := by
  intro n
  induction n with
  | zero => intro σ x0 x1 x3 x4 hf; cases hf
  | succ n ih =>
    intro σ x0 x1 x3 x4 hf
    rw [fX12_powers_59] at hf
    refine g_iload (j := 3) dX12_powers_59 rfl ?_
    refine g_iload_n (j := 2) dX12_powers_61 rfl rfl ?_
    refine g_icmp_ge (tgt := 119) dX12_powers_62 (by decide) (fun c1 => ?_) (fun c1 => ?_)
    · rw [if_pos c1] at hf
      refine g_sub (L' := [(0, rv x0), (1, .int x1), (3, .int x3)]) [0, 1, 2] rfl ?_
      exact bX12_powers_119 hX1 hX2 hf
    · rw [if_neg c1] at hf
      refine g_aload_n (j := 0) dX12_powers_65 rfl rfl ?_
      refine g_bipush (v := 6) dX12_powers_66 (by decide) ?_
      obtain ⟨_, h4, hf⟩ := ob hf
      obtain ⟨σ2, v3, eσ2, hf⟩ := cb_el hf
      refine g_callV_i dX12_powers_68 (wX12_isSmall _ eσ2) (okX12_isSmall _ (by decide) (by decide)) (ckK_el h4) hc16 t_1959 t_1961 s_X12_isSmall rfl (Nat.le_trans (cat_le _) (Nat.le_of_ble_eq_true rfl)) rfl ?_
      refine g_if_eq (tgt := 119) dX12_powers_71 (by decide) (fun c5 => ?_) (fun c5 => ?_)
      · rw [if_pos c5] at hf
        refine g_sub (L' := [(0, rv x0), (1, .int x1), (3, .int x3)]) [0, 1, 2] rfl ?_
        exact bX12_powers_119 hX1 hX2 hf
      · rw [if_neg c5] at hf
        refine g_aload_n (j := 0) dX12_powers_74 rfl rfl ?_
        refine g_bipush (v := 7) dX12_powers_75 (by decide) ?_
        obtain ⟨_, h8, hf⟩ := ob hf
        obtain ⟨σ6, v7, eσ6, hf⟩ := cb_el hf
        refine g_callV_i dX12_powers_77 (wX12_isSmall _ eσ6) (okX12_isSmall _ (by decide) (by decide)) (ckK_el h8) hc16 t_1959 t_1961 s_X12_isSmall rfl (Nat.le_trans (cat_le _) (Nat.le_of_ble_eq_true rfl)) rfl ?_
        refine g_if_eq (tgt := 119) dX12_powers_80 (by decide) (fun c9 => ?_) (fun c9 => ?_)
        · rw [if_pos c9] at hf
          refine g_sub (L' := [(0, rv x0), (1, .int x1), (3, .int x3)]) [0, 1, 2] rfl ?_
          exact bX12_powers_119 hX1 hX2 hf
        · rw [if_neg c9] at hf
          refine g_aload_n (j := 0) dX12_powers_83 rfl rfl ?_
          refine g_iconst (v := 4) dX12_powers_84 (by decide) ?_
          refine g_bipush (v := 6) dX12_powers_85 (by decide) ?_
          refine g_iconst (v := 0) dX12_powers_87 (by decide) ?_
          obtain ⟨_, h12, hf⟩ := ob hf
          obtain ⟨σ10, v11, eσ10, hf⟩ := cb_el hf
          refine g_callV_v dX12_powers_88 (wX12_multiplies _ eσ10) (okX12_multiplies _ (by decide) (by decide)) (ckK_el h12) hc16 t_2310 t_2312 s_X12_multiplies rfl (Nat.le_trans (cat_le _) (Nat.le_of_ble_eq_true rfl)) rfl ?_
          refine g_aload_n (j := 0) dX12_powers_91 rfl rfl ?_
          refine g_bipush (v := 6) dX12_powers_92 (by decide) ?_
          refine g_iconst (v := 4) dX12_powers_94 (by decide) ?_
          obtain ⟨_, h15, hf⟩ := ob hf
          obtain ⟨σ13, v14, eσ13, hf⟩ := cb_el hf
          refine g_callV_v dX12_powers_95 (wX12_copies _ eσ13) (okX12_copies _ (by decide) (by decide)) (ckK_el h15) hc16 t_1927 t_1929 s_X12_copies rfl (Nat.le_trans (cat_le _) (Nat.le_of_ble_eq_true rfl)) rfl ?_
          refine g_aload_n (j := 0) dX12_powers_98 rfl rfl ?_
          refine g_iconst (v := 4) dX12_powers_99 (by decide) ?_
          refine g_bipush (v := 7) dX12_powers_100 (by decide) ?_
          refine g_iconst (v := 1) dX12_powers_102 (by decide) ?_
          obtain ⟨_, h18, hf⟩ := ob hf
          obtain ⟨σ16, v17, eσ16, hf⟩ := cb_el hf
          refine g_callV_v dX12_powers_103 (wX12_multiplies _ eσ16) (okX12_multiplies _ (by decide) (by decide)) (ckK_el h18) hc16 t_2310 t_2312 s_X12_multiplies rfl (Nat.le_trans (cat_le _) (Nat.le_of_ble_eq_true rfl)) rfl ?_
          refine g_aload_n (j := 0) dX12_powers_106 rfl rfl ?_
          refine g_bipush (v := 7) dX12_powers_107 (by decide) ?_
          refine g_iconst (v := 4) dX12_powers_109 (by decide) ?_
          obtain ⟨_, h21, hf⟩ := ob hf
          obtain ⟨σ19, v20, eσ19, hf⟩ := cb_el hf
          refine g_callV_v dX12_powers_110 (wX12_copies _ eσ19) (okX12_copies _ (by decide) (by decide)) (ckK_el h21) hc16 t_1927 t_1929 s_X12_copies rfl (Nat.le_trans (cat_le _) (Nat.le_of_ble_eq_true rfl)) rfl ?_
          obtain ⟨v22, ev22, hf⟩ := nm_el hf
          refine g_iinc (L' := [(4, .int v22), (0, rv x0), (1, .int x1), (3, .int x3)]) (j := 3) (v := v22) dX12_powers_113 rfl (by rw [ev22]; rfl) (Nat.le_of_ble_eq_true rfl) rfl ?_
          refine g_goto (tgt := 59) dX12_powers_116 (by decide) ?_
          refine g_sub (L' := [(0, rv x0), (1, .int x1), (3, .int x3), (4, .int v22)]) [1, 2, 3, 0] rfl ?_
          exact ih _ _ _ _ _ hf

set_option maxRecDepth 100000 in
set_option maxHeartbeats 4000000 in
theorem bX12_powers_39 {X : Xt} {σf : St} {r : Int32} (hX1 : X.2.2.1 = σf) (hX2 : X.2.2.2 = .inl (some (.int r))) {σ : St} {x0 : Nat} {x1 : Int32} {x3 : Int32} {y0 : Nat} {y1 : Int32} {y2 : Int32} {y3 : Int32} (hf : fX12_powers_39 σ x0 x1 x3 y0 y1 y2 y3 = some (σf, r)) : G MtX12_powers X σ 39 [(0, rv x0), (1, .int x1), (3, .int x3)] [.int y3, .int y2, .int y1, rv y0] := by
  unfold fX12_powers_39 at hf
  obtain ⟨_, h3, hf⟩ := ob hf
  obtain ⟨σ1, v2, eσ1, hf⟩ := cb_el hf
  refine g_callV_v dX12_powers_39 (wX12_loads _ eσ1) (okX12_loads _ (by decide) (by decide)) (ckK_el h3) hc16 t_2439 t_2441 s_X12_loads rfl (Nat.le_trans (cat_le _) (Nat.le_of_ble_eq_true rfl)) rfl ?_
  refine g_aload_n (j := 0) dX12_powers_42 rfl rfl ?_
  refine g_bipush (v := 6) dX12_powers_43 (by decide) ?_
  refine g_iconst (v := 1) dX12_powers_45 (by decide) ?_
  obtain ⟨_, h6, hf⟩ := ob hf
  obtain ⟨σ4, v5, eσ4, hf⟩ := cb_el hf
  refine g_callV_v dX12_powers_46 (wX12_puts _ eσ4) (okX12_puts _ (by decide) (by decide)) (ckK_el h6) hc16 t_1911 t_1913 s_X12_puts rfl (Nat.le_trans (cat_le _) (Nat.le_of_ble_eq_true rfl)) rfl ?_
  refine g_aload_n (j := 0) dX12_powers_49 rfl rfl ?_
  refine g_bipush (v := 7) dX12_powers_50 (by decide) ?_
  refine g_iconst (v := 1) dX12_powers_52 (by decide) ?_
  obtain ⟨_, h9, hf⟩ := ob hf
  obtain ⟨σ7, v8, eσ7, hf⟩ := cb_el hf
  refine g_callV_v dX12_powers_53 (wX12_puts _ eσ7) (okX12_puts _ (by decide) (by decide)) (ckK_el h9) hc16 t_1911 t_1913 s_X12_puts rfl (Nat.le_trans (cat_le _) (Nat.le_of_ble_eq_true rfl)) rfl ?_
  refine g_iconst (v := 0) dX12_powers_56 (by decide) ?_
  refine g_istore (i := 4) (L' := [(4, .int 0), (0, rv x0), (1, .int x1), (3, .int x3)]) dX12_powers_57 (Nat.le_of_ble_eq_true rfl) rfl ?_
  refine g_sub (L' := [(0, rv x0), (1, .int x1), (3, .int x3), (4, .int 0)]) [1, 2, 3, 0] rfl ?_
  exact bX12_powers_59 hX1 hX2 FU _ _ _ _ _ hf

set_option maxRecDepth 100000 in
set_option maxHeartbeats 4000000 in
theorem bX12_powers_24 {X : Xt} {σf : St} {r : Int32} (hX1 : X.2.2.1 = σf) (hX2 : X.2.2.2 = .inl (some (.int r))) {σ : St} {x0 : Nat} {x1 : Int32} {x2 : Int32} {x3 : Int32} {y0 : Nat} {y1 : Int32} {y2 : Int32} {y3 : Int32} (hf : fX12_powers_24 σ x0 x1 x2 x3 y0 y1 y2 y3 = some (σf, r)) : G MtX12_powers X σ 24 [(0, rv x0), (1, .int x1), (2, .int x2), (3, .int x3)] [.int y3, .int y2, .int y1, rv y0] := by
  unfold fX12_powers_24 at hf
  obtain ⟨_, h3, hf⟩ := ob hf
  obtain ⟨σ1, v2, eσ1, hf⟩ := cb_el hf
  refine g_callV_v dX12_powers_24 (wX12_loads _ eσ1) (okX12_loads _ (by decide) (by decide)) (ckK_el h3) hc16 t_2439 t_2441 s_X12_loads rfl (Nat.le_trans (cat_le _) (Nat.le_of_ble_eq_true rfl)) rfl ?_
  refine g_aload_n (j := 0) dX12_powers_27 rfl rfl ?_
  refine g_iconst (v := 1) dX12_powers_28 (by decide) ?_
  refine g_iload_n (j := 1) dX12_powers_29 rfl rfl ?_
  refine g_iload_n (j := 2) dX12_powers_30 rfl rfl ?_
  refine g_if_lt (tgt := 38) dX12_powers_31 (by decide) (fun c4 => ?_) (fun c4 => ?_)
  · rw [if_pos c4] at hf
    refine g_iconst (v := 0) dX12_powers_38 (by decide) ?_
    refine g_sub (L' := [(0, rv x0), (1, .int x1), (3, .int x3)]) [0, 1, 3] rfl ?_
    exact bX12_powers_39 hX1 hX2 hf
  · rw [if_neg c4] at hf
    refine g_iconst (v := 1) dX12_powers_34 (by decide) ?_
    refine g_goto (tgt := 39) dX12_powers_35 (by decide) ?_
    refine g_sub (L' := [(0, rv x0), (1, .int x1), (3, .int x3)]) [0, 1, 3] rfl ?_
    exact bX12_powers_39 hX1 hX2 hf

set_option maxRecDepth 100000 in
set_option maxHeartbeats 4000000 in
theorem bX12_powers_11 {X : Xt} {σf : St} {r : Int32} (hX1 : X.2.2.1 = σf) (hX2 : X.2.2.2 = .inl (some (.int r))) {σ : St} {x0 : Nat} {x1 : Int32} {x2 : Int32} {y0 : Int32} (hf : fX12_powers_11 σ x0 x1 x2 y0 = some (σf, r)) : G MtX12_powers X σ 11 [(0, rv x0), (1, .int x1), (2, .int x2)] [.int y0] := by
  unfold fX12_powers_11 at hf
  refine g_istore_n (i := 3) (L' := [(3, .int y0), (0, rv x0), (1, .int x1), (2, .int x2)]) dX12_powers_11 rfl (Nat.le_of_ble_eq_true rfl) rfl ?_
  refine g_aload_n (j := 1) dX12_powers_12 rfl rfl ?_
  refine g_iconst (v := 0) dX12_powers_13 (by decide) ?_
  refine g_iload_n (j := 2) dX12_powers_14 rfl rfl ?_
  refine g_iload_n (j := 3) dX12_powers_15 rfl rfl ?_
  refine g_if_ge (tgt := 23) dX12_powers_16 (by decide) (fun c1 => ?_) (fun c1 => ?_)
  · rw [if_pos c1] at hf
    refine g_iconst (v := 0) dX12_powers_23 (by decide) ?_
    refine g_sub (L' := [(0, rv x0), (1, .int x1), (2, .int x2), (3, .int y0)]) [1, 2, 3, 0] rfl ?_
    exact bX12_powers_24 hX1 hX2 hf
  · rw [if_neg c1] at hf
    refine g_iconst (v := 1) dX12_powers_19 (by decide) ?_
    refine g_goto (tgt := 24) dX12_powers_20 (by decide) ?_
    refine g_sub (L' := [(0, rv x0), (1, .int x1), (2, .int x2), (3, .int y0)]) [1, 2, 3, 0] rfl ?_
    exact bX12_powers_24 hX1 hX2 hf

set_option maxRecDepth 100000 in
set_option maxHeartbeats 4000000 in
theorem wX12_powers (l : Launch) {σ σf : St} {x0 : Nat} {x1 : Int32} {x2 : Int32} {r : Int32} (hf : fX12_powers σ x0 x1 x2 = some (σf, r)) : Con MtX12_powers yX12_powers l σ [rv x0, .int x1, .int x2] σf (some (.int r)) := by
  refine Con.of (by decide +kernel) rfl (fun h => absurd (show false = true from h) (by decide)) (by simp only [sl_n, sl_r, sl_i, sl_l]; exact Nat.le_of_ble_eq_true rfl) ?_
  rw [show lv_args 0 [rv x0, .int x1, .int x2] = [(0, rv x0), (1, .int x1), (2, .int x2)] by simp only [la_n, la_r, la_i, la_l] <;> rfl]
  have hX1 : ((l, σ, σf, .inl (some (.int r))) : Xt).2.2.1 = σf := rfl
  have hX2 : ((l, σ, σf, .inl (some (.int r))) : Xt).2.2.2 = .inl (some (.int r)) := rfl
  unfold fX12_powers at hf
  refine g_iload_n (j := 2) dX12_powers_0 rfl rfl ?_
  refine g_if_ge (tgt := 10) dX12_powers_1 (by decide) (fun c1 => ?_) (fun c1 => ?_)
  · rw [if_pos c1] at hf
    refine g_iload_n (j := 2) dX12_powers_10 rfl rfl ?_
    exact bX12_powers_11 hX1 hX2 hf
  · rw [if_neg c1] at hf
    refine g_iconst (v := 0) dX12_powers_4 (by decide) ?_
    refine g_iload_n (j := 2) dX12_powers_5 rfl rfl ?_
    refine g_isub dX12_powers_6 ?_
    refine g_goto (tgt := 11) dX12_powers_7 (by decide) ?_
    exact bX12_powers_11 hX1 hX2 hf

theorem okX12_powers (M : Mt) (h1 : 3 + 1 ≤ M.2.2.2.2.1) (h2 : 8 + (5 + 11) + 133 ≤ M.2.2.2.2.2.1) : CallOk M MtX12_powers yX12_powers 2 := ⟨t_2458, h1, h2, ⟨by decide, by decide⟩, by decide +kernel, t_16⟩
