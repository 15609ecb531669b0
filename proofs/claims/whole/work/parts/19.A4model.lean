abbrev MtX12_redo : Mt := (cX12_redo, 1, "ExactlySaidModel", (Option.some Jvm.ClassFile.FieldType.int), 2, 109, false)
set_option maxRecDepth 100000 in
set_option maxHeartbeats 4000000 in
theorem wX12_redo (l : Launch) {σ σf : St} {x0 : Nat} {r : Int32} (hf : fX12_redo σ x0 = some (σf, r)) : Con MtX12_redo yX12_redo l σ [rv x0] σf (some (.int r)) := by
  refine Con.of (by decide +kernel) rfl (fun h => absurd (show false = true from h) (by decide)) (by simp only [sl_n, sl_r, sl_i, sl_l]; exact Nat.le_of_ble_eq_true rfl) ?_
  rw [show lv_args 0 [rv x0] = [(0, rv x0)] by simp only [la_n, la_r, la_i, la_l] <;> rfl]
  have hX1 : ((l, σ, σf, .inl (some (.int r))) : Xt).2.2.1 = σf := rfl
  have hX2 : ((l, σ, σf, .inl (some (.int r))) : Xt).2.2.2 = .inl (some (.int r)) := rfl
  unfold fX12_redo at hf
  refine g_aload_n (j := 0) dX12_redo_0 rfl rfl ?_
  refine g_iconst (v := 0) dX12_redo_1 (by decide) ?_
  obtain ⟨σ1, eσ1, hf⟩ := ob hf
  refine g_putI dX12_redo_2 eσ1 (Or.inl t_1967) hin16 hc16 (by decide) hty16 hnm16 (Or.inl rfl) rfl rfl rfl ?_
  refine g_aload_n (j := 0) dX12_redo_5 rfl rfl ?_
  obtain ⟨v2, ev2, hf⟩ := ob hf
  refine g_getI dX12_redo_6 ev2 t_2040 hin16 hc16 (by decide) rfl ?_
  refine g_if_ne (tgt := 14) dX12_redo_9 (by decide) (fun c3 => ?_) (fun c3 => ?_)
  · rw [if_neg c3] at hf
    refine g_aload_n (j := 0) dX12_redo_14 rfl rfl ?_
    refine g_aload_n (j := 0) dX12_redo_15 rfl rfl ?_
    obtain ⟨v4, ev4, hf⟩ := ob hf
    refine g_getF dX12_redo_16 ev4 t_2037 hin16 hc16 (by decide) rfl ?_
    refine g_sipush (v := 252) dX12_redo_19 (by decide) ?_
    refine g_aload_n (j := 0) dX12_redo_22 rfl rfl ?_
    obtain ⟨v5, ev5, hf⟩ := ob hf
    refine g_getI dX12_redo_23 ev5 t_2039 hin16 hc16 (by decide) rfl ?_
    refine g_imul dX12_redo_26 ?_
    obtain ⟨_, h8, hf⟩ := ob hf
    obtain ⟨σ6, v7, eσ6, hf⟩ := cb_el hf
    refine g_callV_v dX12_redo_27 (wX12_writesState _ eσ6) (okX12_writesState _ (by decide) (by decide)) (ckK_el h8) hc16 t_2495 t_2497 s_X12_writesState rfl (Nat.le_trans (cat_le _) (Nat.le_of_ble_eq_true rfl)) rfl ?_
    refine g_aload_n (j := 0) dX12_redo_30 rfl rfl ?_
    refine g_dup dX12_redo_31 (rv_cat _) ?_
    obtain ⟨v9, ev9, hf⟩ := ob hf
    refine g_getI dX12_redo_32 ev9 t_2039 hin16 hc16 (by decide) rfl ?_
    refine g_iconst (v := 1) dX12_redo_35 (by decide) ?_
    refine g_iadd dX12_redo_36 ?_
    obtain ⟨σ10, eσ10, hf⟩ := ob hf
    refine g_putI dX12_redo_37 eσ10 (Or.inl t_2039) hin16 hc16 (by decide) hty16 hnm16 (Or.inl rfl) rfl rfl rfl ?_
    refine g_aload_n (j := 0) dX12_redo_40 rfl rfl ?_
    refine g_dup dX12_redo_41 (rv_cat _) ?_
    obtain ⟨v11, ev11, hf⟩ := ob hf
    refine g_getI dX12_redo_42 ev11 t_2040 hin16 hc16 (by decide) rfl ?_
    refine g_iconst (v := 1) dX12_redo_45 (by decide) ?_
    refine g_isub dX12_redo_46 ?_
    obtain ⟨σ12, eσ12, hf⟩ := ob hf
    refine g_putI dX12_redo_47 eσ12 (Or.inl t_2040) hin16 hc16 (by decide) hty16 hnm16 (Or.inl rfl) rfl rfl rfl ?_
    refine g_aload_n (j := 0) dX12_redo_50 rfl rfl ?_
    refine g_aload_n (j := 0) dX12_redo_51 rfl rfl ?_
    obtain ⟨v13, ev13, hf⟩ := ob hf
    refine g_getF dX12_redo_52 ev13 t_2038 hin16 hc16 (by decide) rfl ?_
    refine g_sipush (v := 252) dX12_redo_55 (by decide) ?_
    refine g_aload_n (j := 0) dX12_redo_58 rfl rfl ?_
    obtain ⟨v14, ev14, hf⟩ := ob hf
    refine g_getI dX12_redo_59 ev14 t_2040 hin16 hc16 (by decide) rfl ?_
    refine g_imul dX12_redo_62 ?_
    obtain ⟨_, h17, hf⟩ := ob hf
    obtain ⟨σ15, v16, eσ15, hf⟩ := cb_el hf
    refine g_callV_v dX12_redo_63 (wX12_readsState _ eσ15) (okX12_readsState _ (by decide) (by decide)) (ckK_el h17) hc16 t_2515 t_2517 s_X12_readsState rfl (Nat.le_trans (cat_le _) (Nat.le_of_ble_eq_true rfl)) rfl ?_
    refine g_aload_n (j := 0) dX12_redo_66 rfl rfl ?_
    obtain ⟨v18, ev18, hf⟩ := ob hf
    refine g_getI dX12_redo_67 ev18 t_2040 hin16 hc16 (by decide) rfl ?_
    exact g_iret dX12_redo_70 rfl rfl hX2 hX1 hf
  · rw [if_pos c3] at hf
    refine g_iconst (v := (-1)) dX12_redo_12 (by decide) ?_
    exact g_iret dX12_redo_13 rfl rfl hX2 hX1 hf

theorem okX12_redo (M : Mt) (h1 : 2 + 1 ≤ M.2.2.2.2.1) (h2 : 8 + (1 + 11) + 109 ≤ M.2.2.2.2.2.1) : CallOk M MtX12_redo yX12_redo 0 := ⟨t_2550, h1, h2, ⟨by decide, by decide⟩, by decide +kernel, t_16⟩
abbrev MtX12_meanDigits : Mt := (cX12_meanDigits, 3, "ExactlySaidModel", (Option.some Jvm.ClassFile.FieldType.double), 3, 130, false)
set_option maxRecDepth 100000 in
set_option maxHeartbeats 4000000 in
theorem bX12_meanDigits_71 {X : Xt} {σf : St} {r : UInt64} (hX1 : X.2.2.1 = σf) (hX2 : X.2.2.2 = .inl (some (.double r))) {σ : St} {y0 : UInt64} (hf : fX12_meanDigits_71 σ y0 = some (σf, r)) : G MtX12_meanDigits X σ 71 [] [.double y0] := by
  unfold fX12_meanDigits_71 at hf
  exact g_dret dX12_meanDigits_71 rfl hX2 hX1 hf

set_option maxRecDepth 100000 in
set_option maxHeartbeats 4000000 in
theorem bX12_meanDigits_9 {X : Xt} {σf : St} {r : UInt64} (hX1 : X.2.2.1 = σf) (hX2 : X.2.2.2 = .inl (some (.double r))) : ∀ (n : Nat) (σ : St) (x0 : Nat) (x1 : Int32) (x2 : Int32), fX12_meanDigits_9 n σ x0 x1 x2 = some (σf, r) → G MtX12_meanDigits X σ 9 [(0, rv x0), (1, .int x1), (2, .int x2)] [] := by
  intro n
  induction n with
  | zero => intro σ x0 x1 x2 hf; cases hf
  | succ n ih =>
    intro σ x0 x1 x2 hf
    rw [fX12_meanDigits_9] at hf
    refine g_iload_n (j := 2) dX12_meanDigits_9 rfl rfl ?_
    refine g_aload_n (j := 0) dX12_meanDigits_10 rfl rfl ?_
    obtain ⟨v1, ev1, hf⟩ := ob hf
    refine g_getI dX12_meanDigits_11 ev1 t_2007 hin16 hc16 (by decide) rfl ?_
    refine g_icmp_ge (tgt := 52) dX12_meanDigits_14 (by decide) (fun c2 => ?_) (fun c2 => ?_)
    · rw [if_pos c2] at hf
      refine g_aload_n (j := 0) dX12_meanDigits_52 rfl rfl ?_
      obtain ⟨v3, ev3, hf⟩ := ob hf
      refine g_getI dX12_meanDigits_53 ev3 t_2007 hin16 hc16 (by decide) rfl ?_
      refine g_if_ne (tgt := 63) dX12_meanDigits_56 (by decide) (fun c4 => ?_) (fun c4 => ?_)
      · rw [if_neg c4] at hf
        refine g_iload_n (j := 1) dX12_meanDigits_63 rfl rfl ?_
        refine g_i2d dX12_meanDigits_64 ?_
        refine g_aload_n (j := 0) dX12_meanDigits_65 rfl rfl ?_
        obtain ⟨v5, ev5, hf⟩ := ob hf
        refine g_getI dX12_meanDigits_66 ev5 t_2007 hin16 hc16 (by decide) rfl ?_
        refine g_i2d dX12_meanDigits_69 ?_
        obtain ⟨_, h6, hf⟩ := ob hf
        refine g_ddiv dX12_meanDigits_70 (ckND_el h6) ?_
        refine g_sub (L' := []) [] rfl ?_
        exact bX12_meanDigits_71 hX1 hX2 hf
      · rw [if_pos c4] at hf
        refine g_dconst0 dX12_meanDigits_59 ?_
        refine g_goto (tgt := 71) dX12_meanDigits_60 (by decide) ?_
        refine g_sub (L' := []) [] rfl ?_
        exact bX12_meanDigits_71 hX1 hX2 hf
    · rw [if_neg c2] at hf
      refine g_aload_n (j := 0) dX12_meanDigits_17 rfl rfl ?_
      refine g_iconst (v := 0) dX12_meanDigits_18 (by decide) ?_
      obtain ⟨σ7, eσ7, hf⟩ := ob hf
      refine g_putI dX12_meanDigits_19 eσ7 (Or.inl t_2044) hin16 hc16 (by decide) hty16 hnm16 (Or.inl rfl) rfl rfl rfl ?_
      refine g_aload_n (j := 0) dX12_meanDigits_22 rfl rfl ?_
      refine g_iconst (v := 0) dX12_meanDigits_23 (by decide) ?_
      refine g_aload_n (j := 0) dX12_meanDigits_24 rfl rfl ?_
      obtain ⟨v8, ev8, hf⟩ := ob hf
      refine g_getF dX12_meanDigits_25 ev8 t_2006 hin16 hc16 (by decide) rfl ?_
      refine g_iload_n (j := 2) dX12_meanDigits_28 rfl rfl ?_
      obtain ⟨v9, ev9, hf⟩ := ob hf
      refine g_iald dX12_meanDigits_29 ev9 ?_
      refine g_iconst (v := 1) dX12_meanDigits_30 (by decide) ?_
      obtain ⟨_, h12, hf⟩ := ob hf
      obtain ⟨σ10, v11, eσ10, hf⟩ := cb_el hf
      refine g_callV_v dX12_meanDigits_31 (wX12_loads _ eσ10) (okX12_loads _ (by decide) (by decide)) (ckK_el h12) hc16 t_2439 t_2441 s_X12_loads rfl (Nat.le_trans (cat_le _) (Nat.le_of_ble_eq_true rfl)) rfl ?_
      refine g_aload_n (j := 0) dX12_meanDigits_34 rfl rfl ?_
      refine g_iconst (v := 0) dX12_meanDigits_35 (by decide) ?_
      obtain ⟨_, h15, hf⟩ := ob hf
      obtain ⟨σ13, v14, eσ13, hf⟩ := cb_el hf
      refine g_callV_v dX12_meanDigits_36 (wX12_writesNumber _ eσ13) (okX12_writesNumber _ (by decide) (by decide)) (ckK_el h15) hc16 t_2563 t_2565 s_X12_writesNumber rfl (Nat.le_trans (cat_le _) (Nat.le_of_ble_eq_true rfl)) rfl ?_
      refine g_iload_n (j := 1) dX12_meanDigits_39 rfl rfl ?_
      refine g_aload_n (j := 0) dX12_meanDigits_40 rfl rfl ?_
      obtain ⟨v16, ev16, hf⟩ := ob hf
      refine g_getI dX12_meanDigits_41 ev16 t_2044 hin16 hc16 (by decide) rfl ?_
      refine g_iadd dX12_meanDigits_44 ?_
      obtain ⟨v17, ev17, hf⟩ := nm_el hf
      refine g_topI ev17 ?_
      refine g_istore_n (i := 1) (L' := [(1, .int v17), (0, rv x0), (2, .int x2)]) dX12_meanDigits_45 rfl (Nat.le_of_ble_eq_true rfl) (by simp [rv_cat]) ?_
      obtain ⟨v18, ev18, hf⟩ := nm_el hf
      refine g_iinc (L' := [(2, .int v18), (1, .int v17), (0, rv x0)]) (j := 2) (v := v18) dX12_meanDigits_46 rfl (by rw [ev18]; rfl) (Nat.le_of_ble_eq_true rfl) rfl ?_
      refine g_goto (tgt := 9) dX12_meanDigits_49 (by decide) ?_
      refine g_sub (L' := [(0, rv x0), (1, .int v17), (2, .int v18)]) [2, 1, 0] rfl ?_
      exact ih _ _ _ _ hf

set_option maxRecDepth 100000 in
set_option maxHeartbeats 4000000 in
theorem wX12_meanDigits (l : Launch) {σ σf : St} {x0 : Nat} {r : UInt64} (hf : fX12_meanDigits σ x0 = some (σf, r)) : Con MtX12_meanDigits yX12_meanDigits l σ [rv x0] σf (some (.double r)) := by
  refine Con.of (by decide +kernel) rfl (fun h => absurd (show false = true from h) (by decide)) (by simp only [sl_n, sl_r, sl_i, sl_l]; exact Nat.le_of_ble_eq_true rfl) ?_
  rw [show lv_args 0 [rv x0] = [(0, rv x0)] by simp only [la_n, la_r, la_i, la_l] <;> rfl]
  have hX1 : ((l, σ, σf, .inl (some (.double r))) : Xt).2.2.1 = σf := rfl
  have hX2 : ((l, σ, σf, .inl (some (.double r))) : Xt).2.2.2 = .inl (some (.double r)) := rfl
  unfold fX12_meanDigits at hf
  refine g_aload_n (j := 0) dX12_meanDigits_0 rfl rfl ?_
  refine g_iconst (v := 0) dX12_meanDigits_1 (by decide) ?_
  obtain ⟨σ1, eσ1, hf⟩ := ob hf
  refine g_putI dX12_meanDigits_2 eσ1 (Or.inl t_1967) hin16 hc16 (by decide) hty16 hnm16 (Or.inl rfl) rfl rfl rfl ?_
  refine g_iconst (v := 0) dX12_meanDigits_5 (by decide) ?_
  refine g_istore_n (i := 1) (L' := [(1, .int 0), (0, rv x0)]) dX12_meanDigits_6 rfl (Nat.le_of_ble_eq_true rfl) (by simp [rv_cat]) ?_
  refine g_iconst (v := 0) dX12_meanDigits_7 (by decide) ?_
  refine g_istore_n (i := 2) (L' := [(2, .int 0), (1, .int 0), (0, rv x0)]) dX12_meanDigits_8 rfl (Nat.le_of_ble_eq_true rfl) rfl ?_
  refine g_sub (L' := [(0, rv x0), (1, .int 0), (2, .int 0)]) [2, 1, 0] rfl ?_
  exact bX12_meanDigits_9 hX1 hX2 FU _ _ _ _ hf

theorem okX12_meanDigits (M : Mt) (h1 : 3 + 1 ≤ M.2.2.2.2.1) (h2 : 8 + (3 + 11) + 130 ≤ M.2.2.2.2.2.1) : CallOk M MtX12_meanDigits yX12_meanDigits 0 := ⟨t_2766, h1, h2, ⟨by decide, by decide⟩, by decide +kernel, t_16⟩
abbrev MtX12_wholes : Mt := (cX12_wholes, 3, "ExactlySaidModel", (Option.some Jvm.ClassFile.FieldType.float), 2, 106, false)
set_option maxRecDepth 100000 in
set_option maxHeartbeats 4000000 in
theorem bX12_wholes_34 {X : Xt} {σf : St} {r : UInt32} (hX1 : X.2.2.1 = σf) (hX2 : X.2.2.2 = .inl (some (.float r))) {k9 : St → Nat → Int32 → Int32 → Option (St × UInt32)} (hk9 : ∀ (σ : St) (x0 : Nat) (x1 : Int32) (x2 : Int32), k9 σ x0 x1 x2 = some (σf, r) → G MtX12_wholes X σ 9 [(0, rv x0), (1, .int x1), (2, .int x2)] []) {σ : St} {x0 : Nat} {x2 : Int32} {y0 : Int32} {y1 : Int32} (hf : fX12_wholes_34 k9 σ x0 x2 y0 y1 = some (σf, r)) : G MtX12_wholes X σ 34 [(0, rv x0), (2, .int x2)] [.int y1, .int y0] := by
  unfold fX12_wholes_34 at hf
  refine g_iadd dX12_wholes_34 ?_
  obtain ⟨v1, ev1, hf⟩ := nm_el hf
  refine g_topI ev1 ?_
  refine g_istore_n (i := 1) (L' := [(1, .int v1), (0, rv x0), (2, .int x2)]) dX12_wholes_35 rfl (Nat.le_of_ble_eq_true rfl) (by simp [rv_cat]) ?_
  obtain ⟨v2, ev2, hf⟩ := nm_el hf
  refine g_iinc (L' := [(2, .int v2), (1, .int v1), (0, rv x0)]) (j := 2) (v := v2) dX12_wholes_36 rfl (by rw [ev2]; rfl) (Nat.le_of_ble_eq_true rfl) rfl ?_
  refine g_goto (tgt := 9) dX12_wholes_39 (by decide) ?_
  refine g_sub (L' := [(0, rv x0), (1, .int v1), (2, .int v2)]) [2, 1, 0] rfl ?_
  exact hk9 _ _ _ _ hf

set_option maxRecDepth 100000 in
set_option maxHeartbeats 4000000 in
theorem bX12_wholes_9 {X : Xt} {σf : St} {r : UInt32} (hX1 : X.2.2.1 = σf) (hX2 : X.2.2.2 = .inl (some (.float r))) : ∀ (n : Nat) (σ : St) (x0 : Nat) (x1 : Int32) (x2 : Int32), fX12_wholes_9 n σ x0 x1 x2 = some (σf, r) → G MtX12_wholes X σ 9 [(0, rv x0), (1, .int x1), (2, .int x2)] [] := by
  intro n
  induction n with
  | zero => intro σ x0 x1 x2 hf; cases hf
  | succ n ih =>
    intro σ x0 x1 x2 hf
    rw [fX12_wholes_9] at hf
    refine g_iload_n (j := 2) dX12_wholes_9 rfl rfl ?_
    refine g_bipush (v := 10) dX12_wholes_10 (by decide) ?_
    refine g_icmp_ge (tgt := 42) dX12_wholes_12 (by decide) (fun c1 => ?_) (fun c1 => ?_)
    · rw [if_pos c1] at hf
      refine g_iload_n (j := 1) dX12_wholes_42 rfl rfl ?_
      refine g_i2f dX12_wholes_43 ?_
      refine g_ldcwF (v := 1092616192) dX12_wholes_44 t_2771 ?_
      obtain ⟨_, h2, hf⟩ := ob hf
      refine g_fdiv dX12_wholes_47 (ckNF_el h2) ?_
      exact g_fret dX12_wholes_48 rfl hX2 hX1 hf
    · rw [if_neg c1] at hf
      refine g_iload_n (j := 1) dX12_wholes_15 rfl rfl ?_
      refine g_aload_n (j := 0) dX12_wholes_16 rfl rfl ?_
      refine g_aload_n (j := 0) dX12_wholes_17 rfl rfl ?_
      obtain ⟨v3, ev3, hf⟩ := ob hf
      refine g_getF dX12_wholes_18 ev3 t_2041 hin16 hc16 (by decide) rfl ?_
      refine g_iload_n (j := 2) dX12_wholes_21 rfl rfl ?_
      obtain ⟨v4, ev4, hf⟩ := ob hf
      refine g_iald dX12_wholes_22 ev4 ?_
      obtain ⟨_, h7, hf⟩ := ob hf
      obtain ⟨σ5, v6, eσ5, hf⟩ := cb_el hf
      refine g_callV_i dX12_wholes_23 (wX12_isWhole _ eσ5) (okX12_isWhole _ (by decide) (by decide)) (ckK_el h7) hc16 t_2419 t_2421 s_X12_isWhole rfl (Nat.le_trans (cat_le _) (Nat.le_of_ble_eq_true rfl)) rfl ?_
      refine g_if_eq (tgt := 33) dX12_wholes_26 (by decide) (fun c8 => ?_) (fun c8 => ?_)
      · rw [if_pos c8] at hf
        refine g_iconst (v := 0) dX12_wholes_33 (by decide) ?_
        refine g_sub (L' := [(0, rv x0), (2, .int x2)]) [0, 2] rfl ?_
        exact bX12_wholes_34 hX1 hX2 (fun σ x0 x1 x2 hf => ih σ x0 x1 x2 hf) hf
      · rw [if_neg c8] at hf
        refine g_iconst (v := 1) dX12_wholes_29 (by decide) ?_
        refine g_goto (tgt := 34) dX12_wholes_30 (by decide) ?_
        refine g_sub (L' := [(0, rv x0), (2, .int x2)]) [0, 2] rfl ?_
        exact bX12_wholes_34 hX1 hX2 (fun σ x0 x1 x2 hf => ih σ x0 x1 x2 hf) hf

set_option maxRecDepth 100000 in
set_option maxHeartbeats 4000000 in
theorem wX12_wholes (l : Launch) {σ σf : St} {x0 : Nat} {r : UInt32} (hf : fX12_wholes σ x0 = some (σf, r)) : Con MtX12_wholes yX12_wholes l σ [rv x0] σf (some (.float r)) := by
  refine Con.of (by decide +kernel) rfl (fun h => absurd (show false = true from h) (by decide)) (by simp only [sl_n, sl_r, sl_i, sl_l]; exact Nat.le_of_ble_eq_true rfl) ?_
  rw [show lv_args 0 [rv x0] = [(0, rv x0)] by simp only [la_n, la_r, la_i, la_l] <;> rfl]
  have hX1 : ((l, σ, σf, .inl (some (.float r))) : Xt).2.2.1 = σf := rfl
  have hX2 : ((l, σ, σf, .inl (some (.float r))) : Xt).2.2.2 = .inl (some (.float r)) := rfl
  unfold fX12_wholes at hf
  refine g_aload_n (j := 0) dX12_wholes_0 rfl rfl ?_
  refine g_iconst (v := 0) dX12_wholes_1 (by decide) ?_
  obtain ⟨σ1, eσ1, hf⟩ := ob hf
  refine g_putI dX12_wholes_2 eσ1 (Or.inl t_1967) hin16 hc16 (by decide) hty16 hnm16 (Or.inl rfl) rfl rfl rfl ?_
  refine g_iconst (v := 0) dX12_wholes_5 (by decide) ?_
  refine g_istore_n (i := 1) (L' := [(1, .int 0), (0, rv x0)]) dX12_wholes_6 rfl (Nat.le_of_ble_eq_true rfl) (by simp [rv_cat]) ?_
  refine g_iconst (v := 0) dX12_wholes_7 (by decide) ?_
  refine g_istore_n (i := 2) (L' := [(2, .int 0), (1, .int 0), (0, rv x0)]) dX12_wholes_8 rfl (Nat.le_of_ble_eq_true rfl) rfl ?_
  refine g_sub (L' := [(0, rv x0), (1, .int 0), (2, .int 0)]) [2, 1, 0] rfl ?_
  exact bX12_wholes_9 hX1 hX2 FU _ _ _ _ hf

theorem okX12_wholes (M : Mt) (h1 : 2 + 1 ≤ M.2.2.2.2.1) (h2 : 8 + (3 + 11) + 106 ≤ M.2.2.2.2.2.1) : CallOk M MtX12_wholes yX12_wholes 0 := ⟨t_2770, h1, h2, ⟨by decide, by decide⟩, by decide +kernel, t_16⟩
abbrev MtX12_errors : Mt := (cX12_errors, 1, "ExactlySaidModel", (Option.some Jvm.ClassFile.FieldType.int), 1, 84, false)
set_option maxRecDepth 100000 in
set_option maxHeartbeats 4000000 in
theorem wX12_errors (l : Launch) {σ σf : St} {x0 : Nat} {r : Int32} (hf : fX12_errors σ x0 = some (σf, r)) : Con MtX12_errors yX12_errors l σ [rv x0] σf (some (.int r)) := by
  refine Con.of (by decide +kernel) rfl (fun h => absurd (show false = true from h) (by decide)) (by simp only [sl_n, sl_r, sl_i, sl_l]; exact Nat.le_of_ble_eq_true rfl) ?_
  rw [show lv_args 0 [rv x0] = [(0, rv x0)] by simp only [la_n, la_r, la_i, la_l] <;> rfl]
  have hX1 : ((l, σ, σf, .inl (some (.int r))) : Xt).2.2.1 = σf := rfl
  have hX2 : ((l, σ, σf, .inl (some (.int r))) : Xt).2.2.2 = .inl (some (.int r)) := rfl
  unfold fX12_errors at hf
  refine g_aload_n (j := 0) dX12_errors_0 rfl rfl ?_
  refine g_iconst (v := 0) dX12_errors_1 (by decide) ?_
  obtain ⟨σ1, eσ1, hf⟩ := ob hf
  refine g_putI dX12_errors_2 eσ1 (Or.inl t_1967) hin16 hc16 (by decide) hty16 hnm16 (Or.inl rfl) rfl rfl rfl ?_
  refine g_iconst (v := 0) dX12_errors_5 (by decide) ?_
  exact g_iret dX12_errors_6 rfl rfl hX2 hX1 hf

theorem okX12_errors (M : Mt) (h1 : 1 + 1 ≤ M.2.2.2.2.1) (h2 : 8 + (1 + 11) + 84 ≤ M.2.2.2.2.2.1) : CallOk M MtX12_errors yX12_errors 0 := ⟨t_2775, h1, h2, ⟨by decide, by decide⟩, by decide +kernel, t_16⟩
