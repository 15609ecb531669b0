abbrev MtX3_init : Mt := (cX3_init, 1, "ExactlySaid$Nat", none, 1, 84, true)
set_option maxRecDepth 100000 in
set_option maxHeartbeats 4000000 in
theorem wX3_init (l : Launch) {σ σf : St} {x0 : Nat} {r : Unit} (hf : fX3_init σ x0 = some (σf, r)) : Con MtX3_init yX3_init l σ [rv x0] σf (none) := by
  refine Con.of (by decide +kernel) rfl (fun _ => rfl) (by simp only [sl_n, sl_r, sl_i, sl_l]; exact Nat.le_of_ble_eq_true rfl) ?_
  rw [show lv_args 0 [rv x0] = [(0, rv x0)] by simp only [la_n, la_r, la_i, la_l] <;> rfl]
  have hX1 : ((l, σ, σf, .inl (none)) : Xt).2.2.1 = σf := rfl
  have hX2 : ((l, σ, σf, .inl (none)) : Xt).2.2.2 = .inl (none) := rfl
  unfold fX3_init at hf
  refine g_aload_n (j := 0) dX3_init_0 rfl rfl ?_
  obtain ⟨_, h1, hf⟩ := ob hf
  refine g_objInit dX3_init_1 (of_decide_eq_true (ckP_el h1)) t_55 t_42 t_43 (by decide) (by decide) (Nat.le_of_ble_eq_true rfl) ?_
  refine g_aload_n (j := 0) dX3_init_4 rfl rfl ?_
  refine g_iconst (v := 4) dX3_init_5 (by decide) ?_
  obtain ⟨σ2, eσ2, hf⟩ := ob hf
  obtain ⟨a3, ea3, hf⟩ := nm_el hf
  refine g_newa9 dX3_init_6 eσ2 (by decide) rfl (by decide) rfl t_66 ea3 ?_
  obtain ⟨σ4, eσ4, hf⟩ := ob hf
  refine g_putF dX3_init_8 eσ4 (Or.inl t_56) hin7 hc7 (by decide) hty7 hnm7 (Or.inl rfl) rfl ?_
  exact g_vret dX3_init_11 rfl hX2 hX1 hf

theorem okX3_init (M : Mt) (h1 : 1 + 1 ≤ M.2.2.2.2.1) (h2 : 8 + (1 + 11) + 84 ≤ M.2.2.2.2.2.1) : CallOk M MtX3_init yX3_init 0 := ⟨t_54, h1, h2, ⟨by decide, by decide⟩, by decide +kernel, t_3⟩
abbrev MtX3_setSmall : Mt := (cX3_setSmall, 3, "ExactlySaid$Nat", none, 1, 84, false)
set_option maxRecDepth 100000 in
set_option maxHeartbeats 4000000 in
theorem bX3_setSmall_52 {X : Xt} {σf : St} {r : Unit} (hX1 : X.2.2.1 = σf) (hX2 : X.2.2.2 = .inl (none)) {σ : St} {y0 : Nat} {y1 : Int32} (hf : fX3_setSmall_52 σ y0 y1 = some (σf, r)) : G MtX3_setSmall X σ 52 [] [.int y1, rv y0] := by
  unfold fX3_setSmall_52 at hf
  obtain ⟨σ1, eσ1, hf⟩ := ob hf
  refine g_putI dX3_setSmall_52 eσ1 (Or.inl t_58) hin7 hc7 (by decide) hty7 hnm7 (Or.inl rfl) rfl rfl rfl ?_
  exact g_vret dX3_setSmall_55 rfl hX2 hX1 hf

set_option maxRecDepth 100000 in
set_option maxHeartbeats 4000000 in
theorem wX3_setSmall (l : Launch) {σ σf : St} {x0 : Nat} {x1 : Int64} {r : Unit} (hf : fX3_setSmall σ x0 x1 = some (σf, r)) : Con MtX3_setSmall yX3_setSmall l σ [rv x0, .long x1] σf (none) := by
  refine Con.of (by decide +kernel) rfl (fun h => absurd (show false = true from h) (by decide)) (by simp only [sl_n, sl_r, sl_i, sl_l]; exact Nat.le_of_ble_eq_true rfl) ?_
  rw [show lv_args 0 [rv x0, .long x1] = [(0, rv x0), (1, .long x1)] by simp only [la_n, la_r, la_i, la_l] <;> rfl]
  have hX1 : ((l, σ, σf, .inl (none)) : Xt).2.2.1 = σf := rfl
  have hX2 : ((l, σ, σf, .inl (none)) : Xt).2.2.2 = .inl (none) := rfl
  unfold fX3_setSmall at hf
  refine g_aload_n (j := 0) dX3_setSmall_0 rfl rfl ?_
  obtain ⟨v1, ev1, hf⟩ := ob hf
  refine g_getF dX3_setSmall_1 ev1 t_56 hin7 hc7 (by decide) rfl ?_
  refine g_iconst (v := 0) dX3_setSmall_4 (by decide) ?_
  refine g_lload_n (j := 1) dX3_setSmall_5 rfl rfl ?_
  refine g_ldc2 (v := 1000000000) dX3_setSmall_6 t_71 ?_
  refine g_lrem dX3_setSmall_9 (by decide) ?_
  refine g_l2i dX3_setSmall_10 rfl ?_
  obtain ⟨σ2, eσ2, hf⟩ := ob hf
  refine g_iast dX3_setSmall_11 eσ2 ?_
  refine g_aload_n (j := 0) dX3_setSmall_12 rfl rfl ?_
  obtain ⟨v3, ev3, hf⟩ := ob hf
  refine g_getF dX3_setSmall_13 ev3 t_56 hin7 hc7 (by decide) rfl ?_
  refine g_iconst (v := 1) dX3_setSmall_16 (by decide) ?_
  refine g_lload_n (j := 1) dX3_setSmall_17 rfl rfl ?_
  refine g_ldc2 (v := 1000000000) dX3_setSmall_18 t_71 ?_
  refine g_ldiv dX3_setSmall_21 (by decide) ?_
  refine g_l2i dX3_setSmall_22 rfl ?_
  obtain ⟨σ4, eσ4, hf⟩ := ob hf
  refine g_iast dX3_setSmall_23 eσ4 ?_
  refine g_aload_n (j := 0) dX3_setSmall_24 rfl rfl ?_
  refine g_aload_n (j := 0) dX3_setSmall_25 rfl rfl ?_
  obtain ⟨v5, ev5, hf⟩ := ob hf
  refine g_getF dX3_setSmall_26 ev5 t_56 hin7 hc7 (by decide) rfl ?_
  refine g_iconst (v := 1) dX3_setSmall_29 (by decide) ?_
  obtain ⟨v6, ev6, hf⟩ := ob hf
  refine g_iald dX3_setSmall_30 ev6 ?_
  refine g_if_eq (tgt := 38) dX3_setSmall_31 (by decide) (fun c7 => ?_) (fun c7 => ?_)
  · rw [if_pos c7] at hf
    refine g_aload_n (j := 0) dX3_setSmall_38 rfl rfl ?_
    obtain ⟨v8, ev8, hf⟩ := ob hf
    refine g_getF dX3_setSmall_39 ev8 t_56 hin7 hc7 (by decide) rfl ?_
    refine g_iconst (v := 0) dX3_setSmall_42 (by decide) ?_
    obtain ⟨v9, ev9, hf⟩ := ob hf
    refine g_iald dX3_setSmall_43 ev9 ?_
    refine g_if_eq (tgt := 51) dX3_setSmall_44 (by decide) (fun c10 => ?_) (fun c10 => ?_)
    · rw [if_pos c10] at hf
      refine g_iconst (v := 0) dX3_setSmall_51 (by decide) ?_
      refine g_sub (L' := []) [] rfl ?_
      exact bX3_setSmall_52 hX1 hX2 hf
    · rw [if_neg c10] at hf
      refine g_iconst (v := 1) dX3_setSmall_47 (by decide) ?_
      refine g_goto (tgt := 52) dX3_setSmall_48 (by decide) ?_
      refine g_sub (L' := []) [] rfl ?_
      exact bX3_setSmall_52 hX1 hX2 hf
  · rw [if_neg c7] at hf
    refine g_iconst (v := 2) dX3_setSmall_34 (by decide) ?_
    refine g_goto (tgt := 52) dX3_setSmall_35 (by decide) ?_
    refine g_sub (L' := []) [] rfl ?_
    exact bX3_setSmall_52 hX1 hX2 hf

theorem okX3_setSmall (M : Mt) (h1 : 1 + 1 ≤ M.2.2.2.2.1) (h2 : 8 + (3 + 11) + 84 ≤ M.2.2.2.2.2.1) : CallOk M MtX3_setSmall yX3_setSmall 1 := ⟨t_70, h1, h2, ⟨by decide, by decide⟩, by decide +kernel, t_3⟩
abbrev MtX3_raise : Mt := (cX3_raise, 6, "ExactlySaid$Nat", none, 2, 142, false)
set_option maxRecDepth 100000 in
set_option maxHeartbeats 4000000 in
theorem bX3_raise_91 {X : Xt} {σf : St} {r : Unit} (hX1 : X.2.2.1 = σf) (hX2 : X.2.2.2 = .inl (none)) {σ : St} {x0 : Nat} {x3 : Int64} (hf : fX3_raise_91 σ x0 x3 = some (σf, r)) : G MtX3_raise X σ 91 [(0, rv x0), (3, .long x3)] [] := by
  unfold fX3_raise_91 at hf
  refine g_aload_n (j := 0) dX3_raise_91 rfl rfl ?_
  obtain ⟨v1, ev1, hf⟩ := ob hf
  refine g_getF dX3_raise_92 ev1 t_56 hin7 hc7 (by decide) rfl ?_
  refine g_aload_n (j := 0) dX3_raise_95 rfl rfl ?_
  obtain ⟨v2, ev2, hf⟩ := ob hf
  refine g_getI dX3_raise_96 ev2 t_58 hin7 hc7 (by decide) rfl ?_
  refine g_lload_n (j := 1) dX3_raise_99 rfl rfl ?_
  refine g_l2i dX3_raise_100 rfl ?_
  obtain ⟨σ3, eσ3, hf⟩ := ob hf
  refine g_iast dX3_raise_101 eσ3 ?_
  refine g_aload_n (j := 0) dX3_raise_102 rfl rfl ?_
  refine g_dup dX3_raise_103 (rv_cat _) ?_
  obtain ⟨v4, ev4, hf⟩ := ob hf
  refine g_getI dX3_raise_104 ev4 t_58 hin7 hc7 (by decide) rfl ?_
  refine g_iconst (v := 1) dX3_raise_107 (by decide) ?_
  refine g_iadd dX3_raise_108 ?_
  obtain ⟨σ5, eσ5, hf⟩ := ob hf
  refine g_putI dX3_raise_109 eσ5 (Or.inl t_58) hin7 hc7 (by decide) hty7 hnm7 (Or.inl rfl) rfl rfl rfl ?_
  exact g_vret dX3_raise_112 rfl hX2 hX1 hf

set_option maxRecDepth 100000 in
set_option maxHeartbeats 4000000 in
theorem bX3_raise_6 {X : Xt} {σf : St} {r : Unit} (hX1 : X.2.2.1 = σf) (hX2 : X.2.2.2 = .inl (none)) : ∀ (n : Nat) (σ : St) (x0 : Nat) (x1 : Int32) (x3 : Int64) (x5 : Int32), fX3_raise_6 n σ x0 x1 x3 x5 = some (σf, r) → G MtX3_raise X σ 6 [(0, rv x0), (1, .int x1), (3, .long x3), (5, .int x5)] [] := by
  intro n
  induction n with
  | zero => intro σ x0 x1 x3 x5 hf; cases hf
  | succ n ih =>
    intro σ x0 x1 x3 x5 hf
    rw [fX3_raise_6] at hf
    refine g_iload (j := 3) dX3_raise_6 rfl ?_
    refine g_aload_n (j := 0) dX3_raise_8 rfl rfl ?_
    obtain ⟨v1, ev1, hf⟩ := ob hf
    refine g_getI dX3_raise_9 ev1 t_58 hin7 hc7 (by decide) rfl ?_
    refine g_icmp_ge (tgt := 54) dX3_raise_12 (by decide) (fun c2 => ?_) (fun c2 => ?_)
    · rw [if_pos c2] at hf
      refine g_lload_n (j := 2) dX3_raise_54 rfl rfl ?_
      refine g_lconst (v := 0) dX3_raise_55 (by decide) ?_
      refine g_lcmp dX3_raise_56 ?_
      refine g_if_le (tgt := 112) dX3_raise_57 (by decide) (fun c3 => ?_) (fun c3 => ?_)
      · rw [if_pos c3] at hf
        exact g_vret dX3_raise_112 rfl hX2 hX1 hf
      · rw [if_neg c3] at hf
        refine g_aload_n (j := 0) dX3_raise_60 rfl rfl ?_
        obtain ⟨v4, ev4, hf⟩ := ob hf
        refine g_getF dX3_raise_61 ev4 t_56 hin7 hc7 (by decide) rfl ?_
        obtain ⟨v5, ev5, hf⟩ := ob hf
        refine g_alen dX3_raise_64 ev5 ?_
        refine g_aload_n (j := 0) dX3_raise_65 rfl rfl ?_
        obtain ⟨v6, ev6, hf⟩ := ob hf
        refine g_getI dX3_raise_66 ev6 t_58 hin7 hc7 (by decide) rfl ?_
        refine g_icmp_gt (tgt := 91) dX3_raise_69 (by decide) (fun c7 => ?_) (fun c7 => ?_)
        · rw [if_pos c7] at hf
          refine g_sub (L' := [(0, rv x0), (3, .long x3)]) [0, 2] rfl ?_
          exact bX3_raise_91 hX1 hX2 hf
        · rw [if_neg c7] at hf
          refine g_aload_n (j := 0) dX3_raise_72 rfl rfl ?_
          refine g_aload_n (j := 0) dX3_raise_73 rfl rfl ?_
          obtain ⟨v8, ev8, hf⟩ := ob hf
          refine g_getF dX3_raise_74 ev8 t_56 hin7 hc7 (by decide) rfl ?_
          refine g_aload_n (j := 0) dX3_raise_77 rfl rfl ?_
          obtain ⟨v9, ev9, hf⟩ := ob hf
          refine g_getI dX3_raise_78 ev9 t_58 hin7 hc7 (by decide) rfl ?_
          refine g_iconst (v := 2) dX3_raise_81 (by decide) ?_
          refine g_imul dX3_raise_82 ?_
          refine g_iconst (v := 1) dX3_raise_83 (by decide) ?_
          refine g_iadd dX3_raise_84 ?_
          obtain ⟨σ10, a11, eσ10, hf⟩ := cb_el hf
          refine g_callS_q dX3_raise_85 (wJ7_copyOf_59c91 _ eσ10) (okJ7_copyOf_59c91 _ (by decide) (by decide)) t_900 t_901 rfl (Nat.le_trans (cat_le _) (Nat.le_of_ble_eq_true rfl)) rfl ?_
          obtain ⟨σ12, eσ12, hf⟩ := ob hf
          refine g_putF dX3_raise_88 eσ12 (Or.inl t_56) hin7 hc7 (by decide) hty7 hnm7 (Or.inl rfl) rfl ?_
          refine g_sub (L' := [(0, rv x0), (3, .long x3)]) [0, 2] rfl ?_
          exact bX3_raise_91 hX1 hX2 hf
    · rw [if_neg c2] at hf
      refine g_lload_n (j := 2) dX3_raise_15 rfl rfl ?_
      refine g_aload_n (j := 0) dX3_raise_16 rfl rfl ?_
      obtain ⟨v13, ev13, hf⟩ := ob hf
      refine g_getF dX3_raise_17 ev13 t_56 hin7 hc7 (by decide) rfl ?_
      refine g_iload (j := 3) dX3_raise_20 rfl ?_
      obtain ⟨v14, ev14, hf⟩ := ob hf
      refine g_iald dX3_raise_22 ev14 ?_
      refine g_i2l dX3_raise_23 rfl ?_
      refine g_iload_n (j := 1) dX3_raise_24 rfl rfl ?_
      refine g_i2l dX3_raise_25 rfl ?_
      refine g_lmul dX3_raise_26 ?_
      refine g_ladd dX3_raise_27 ?_
      obtain ⟨v15, ev15, hf⟩ := nm_el hf
      refine g_topL ev15 ?_
      refine g_lstore_n (i := 3) (L' := [(3, .long v15), (0, rv x0), (1, .int x1), (5, .int x5)]) dX3_raise_28 rfl (Nat.le_of_ble_eq_true rfl) rfl ?_
      refine g_aload_n (j := 1) dX3_raise_29 rfl rfl ?_
      obtain ⟨v16, ev16, hf⟩ := ob hf
      refine g_getF dX3_raise_30 ev16 t_56 hin7 hc7 (by decide) rfl ?_
      refine g_iload (j := 3) dX3_raise_33 rfl ?_
      refine g_lload_n (j := 0) dX3_raise_35 rfl rfl ?_
      refine g_ldc2 (v := 1000000000) dX3_raise_36 t_71 ?_
      refine g_lrem dX3_raise_39 (by decide) ?_
      refine g_l2i dX3_raise_40 rfl ?_
      obtain ⟨σ17, eσ17, hf⟩ := ob hf
      refine g_iast dX3_raise_41 eσ17 ?_
      refine g_lload_n (j := 0) dX3_raise_42 rfl rfl ?_
      refine g_ldc2 (v := 1000000000) dX3_raise_43 t_71 ?_
      refine g_ldiv dX3_raise_46 (by decide) ?_
      obtain ⟨v18, ev18, hf⟩ := nm_el hf
      refine g_topL ev18 ?_
      refine g_lstore_n (i := 3) (L' := [(3, .long v18), (0, rv x0), (1, .int x1), (5, .int x5)]) dX3_raise_47 rfl (Nat.le_of_ble_eq_true rfl) rfl ?_
      obtain ⟨v19, ev19, hf⟩ := nm_el hf
      refine g_iinc (L' := [(5, .int v19), (3, .long v18), (0, rv x0), (1, .int x1)]) (j := 3) (v := v19) dX3_raise_48 rfl (by rw [ev19]; rfl) (Nat.le_of_ble_eq_true rfl) rfl ?_
      refine g_goto (tgt := 6) dX3_raise_51 (by decide) ?_
      refine g_sub (L' := [(0, rv x0), (1, .int x1), (3, .long v18), (5, .int v19)]) [2, 3, 1, 0] rfl ?_
      exact ih _ _ _ _ _ hf

set_option maxRecDepth 100000 in
set_option maxHeartbeats 4000000 in
theorem wX3_raise (l : Launch) {σ σf : St} {x0 : Nat} {x1 : Int32} {x2 : Int32} {r : Unit} (hf : fX3_raise σ x0 x1 x2 = some (σf, r)) : Con MtX3_raise yX3_raise l σ [rv x0, .int x1, .int x2] σf (none) := by
  refine Con.of (by decide +kernel) rfl (fun h => absurd (show false = true from h) (by decide)) (by simp only [sl_n, sl_r, sl_i, sl_l]; exact Nat.le_of_ble_eq_true rfl) ?_
  rw [show lv_args 0 [rv x0, .int x1, .int x2] = [(0, rv x0), (1, .int x1), (2, .int x2)] by simp only [la_n, la_r, la_i, la_l] <;> rfl]
  have hX1 : ((l, σ, σf, .inl (none)) : Xt).2.2.1 = σf := rfl
  have hX2 : ((l, σ, σf, .inl (none)) : Xt).2.2.2 = .inl (none) := rfl
  unfold fX3_raise at hf
  refine g_iload_n (j := 2) dX3_raise_0 rfl rfl ?_
  refine g_i2l dX3_raise_1 rfl ?_
  obtain ⟨v1, ev1, hf⟩ := nm_el hf
  refine g_topL ev1 ?_
  refine g_lstore_n (i := 3) (L' := [(3, .long v1), (0, rv x0), (1, .int x1), (2, .int x2)]) dX3_raise_2 rfl (Nat.le_of_ble_eq_true rfl) rfl ?_
  refine g_iconst (v := 0) dX3_raise_3 (by decide) ?_
  refine g_istore (i := 5) (L' := [(5, .int 0), (3, .long v1), (0, rv x0), (1, .int x1), (2, .int x2)]) dX3_raise_4 (Nat.le_of_ble_eq_true rfl) rfl ?_
  refine g_sub (L' := [(0, rv x0), (1, .int x1), (3, .long v1), (5, .int 0)]) [2, 3, 1, 0] rfl ?_
  exact bX3_raise_6 hX1 hX2 FU _ _ _ _ _ hf

theorem okX3_raise (M : Mt) (h1 : 2 + 1 ≤ M.2.2.2.2.1) (h2 : 8 + (6 + 11) + 142 ≤ M.2.2.2.2.2.1) : CallOk M MtX3_raise yX3_raise 2 := ⟨t_899, h1, h2, ⟨by decide, by decide⟩, by decide +kernel, t_3⟩
abbrev MtX3_isZero : Mt := (cX3_isZero, 1, "ExactlySaid$Nat", (Option.some Jvm.ClassFile.FieldType.boolean), 1, 84, false)
set_option maxRecDepth 100000 in
set_option maxHeartbeats 4000000 in
theorem wX3_isZero (l : Launch) {σ σf : St} {x0 : Nat} {r : Int32} (hf : fX3_isZero σ x0 = some (σf, r)) : Con MtX3_isZero yX3_isZero l σ [rv x0] σf (some (.int r)) := by
  refine Con.of (by decide +kernel) rfl (fun h => absurd (show false = true from h) (by decide)) (by simp only [sl_n, sl_r, sl_i, sl_l]; exact Nat.le_of_ble_eq_true rfl) ?_
  rw [show lv_args 0 [rv x0] = [(0, rv x0)] by simp only [la_n, la_r, la_i, la_l] <;> rfl]
  have hX1 : ((l, σ, σf, .inl (some (.int r))) : Xt).2.2.1 = σf := rfl
  have hX2 : ((l, σ, σf, .inl (some (.int r))) : Xt).2.2.2 = .inl (some (.int r)) := rfl
  unfold fX3_isZero at hf
  refine g_aload_n (j := 0) dX3_isZero_0 rfl rfl ?_
  obtain ⟨v1, ev1, hf⟩ := ob hf
  refine g_getI dX3_isZero_1 ev1 t_58 hin7 hc7 (by decide) rfl ?_
  refine g_if_ne (tgt := 11) dX3_isZero_4 (by decide) (fun c2 => ?_) (fun c2 => ?_)
  · rw [if_neg c2] at hf
    refine g_iconst (v := 0) dX3_isZero_11 (by decide) ?_
    exact g_iret dX3_isZero_12 rfl (by decide) hX2 hX1 hf
  · rw [if_pos c2] at hf
    refine g_iconst (v := 1) dX3_isZero_7 (by decide) ?_
    refine g_goto (tgt := 12) dX3_isZero_8 (by decide) ?_
    exact g_iret dX3_isZero_12 rfl (by decide) hX2 hX1 hf

theorem okX3_isZero (M : Mt) (h1 : 1 + 1 ≤ M.2.2.2.2.1) (h2 : 8 + (1 + 11) + 84 ≤ M.2.2.2.2.2.1) : CallOk M MtX3_isZero yX3_isZero 0 := ⟨t_1025, h1, h2, ⟨by decide, by decide⟩, by decide +kernel, t_3⟩
abbrev MtX3_setTo : Mt := (cX3_setTo, 3, "ExactlySaid$Nat", none, 1, 84, false)
set_option maxRecDepth 100000 in
set_option maxHeartbeats 4000000 in
theorem bX3_setTo_26 {X : Xt} {σf : St} {r : Unit} (hX1 : X.2.2.1 = σf) (hX2 : X.2.2.2 = .inl (none)) : ∀ (n : Nat) (σ : St) (x0 : Nat) (x1 : Nat) (x2 : Int32), fX3_setTo_26 n σ x0 x1 x2 = some (σf, r) → G MtX3_setTo X σ 26 [(0, rv x0), (1, rv x1), (2, .int x2)] [] := by
  intro n
  induction n with
  | zero => intro σ x0 x1 x2 hf; cases hf
  | succ n ih =>
    intro σ x0 x1 x2 hf
    rw [fX3_setTo_26] at hf
    refine g_iload_n (j := 2) dX3_setTo_26 rfl rfl ?_
    refine g_aload_n (j := 1) dX3_setTo_27 rfl rfl ?_
    obtain ⟨v1, ev1, hf⟩ := ob hf
    refine g_getI dX3_setTo_28 ev1 t_58 hin7 hc7 (by decide) rfl ?_
    refine g_icmp_ge (tgt := 52) dX3_setTo_31 (by decide) (fun c2 => ?_) (fun c2 => ?_)
    · rw [if_pos c2] at hf
      refine g_aload_n (j := 0) dX3_setTo_52 rfl rfl ?_
      refine g_aload_n (j := 1) dX3_setTo_53 rfl rfl ?_
      obtain ⟨v3, ev3, hf⟩ := ob hf
      refine g_getI dX3_setTo_54 ev3 t_58 hin7 hc7 (by decide) rfl ?_
      obtain ⟨σ4, eσ4, hf⟩ := ob hf
      refine g_putI dX3_setTo_57 eσ4 (Or.inl t_58) hin7 hc7 (by decide) hty7 hnm7 (Or.inl rfl) rfl rfl rfl ?_
      exact g_vret dX3_setTo_60 rfl hX2 hX1 hf
    · rw [if_neg c2] at hf
      refine g_aload_n (j := 0) dX3_setTo_34 rfl rfl ?_
      obtain ⟨v5, ev5, hf⟩ := ob hf
      refine g_getF dX3_setTo_35 ev5 t_56 hin7 hc7 (by decide) rfl ?_
      refine g_iload_n (j := 2) dX3_setTo_38 rfl rfl ?_
      refine g_aload_n (j := 1) dX3_setTo_39 rfl rfl ?_
      obtain ⟨v6, ev6, hf⟩ := ob hf
      refine g_getF dX3_setTo_40 ev6 t_56 hin7 hc7 (by decide) rfl ?_
      refine g_iload_n (j := 2) dX3_setTo_43 rfl rfl ?_
      obtain ⟨v7, ev7, hf⟩ := ob hf
      refine g_iald dX3_setTo_44 ev7 ?_
      obtain ⟨σ8, eσ8, hf⟩ := ob hf
      refine g_iast dX3_setTo_45 eσ8 ?_
      obtain ⟨v9, ev9, hf⟩ := nm_el hf
      refine g_iinc (L' := [(2, .int v9), (0, rv x0), (1, rv x1)]) (j := 2) (v := v9) dX3_setTo_46 rfl (by rw [ev9]; rfl) (Nat.le_of_ble_eq_true rfl) (by simp [rv_cat]) ?_
      refine g_goto (tgt := 26) dX3_setTo_49 (by decide) ?_
      refine g_sub (L' := [(0, rv x0), (1, rv x1), (2, .int v9)]) [1, 2, 0] rfl ?_
      exact ih _ _ _ _ hf

set_option maxRecDepth 100000 in
set_option maxHeartbeats 4000000 in
theorem bX3_setTo_24 {X : Xt} {σf : St} {r : Unit} (hX1 : X.2.2.1 = σf) (hX2 : X.2.2.2 = .inl (none)) {σ : St} {x0 : Nat} {x1 : Nat} (hf : fX3_setTo_24 σ x0 x1 = some (σf, r)) : G MtX3_setTo X σ 24 [(0, rv x0), (1, rv x1)] [] := by
  unfold fX3_setTo_24 at hf
  refine g_iconst (v := 0) dX3_setTo_24 (by decide) ?_
  refine g_istore_n (i := 2) (L' := [(2, .int 0), (0, rv x0), (1, rv x1)]) dX3_setTo_25 rfl (Nat.le_of_ble_eq_true rfl) (by simp [rv_cat]) ?_
  refine g_sub (L' := [(0, rv x0), (1, rv x1), (2, .int 0)]) [1, 2, 0] rfl ?_
  exact bX3_setTo_26 hX1 hX2 FU _ _ _ _ hf

set_option maxRecDepth 100000 in
set_option maxHeartbeats 4000000 in
theorem wX3_setTo (l : Launch) {σ σf : St} {x0 : Nat} {x1 : Nat} {r : Unit} (hf : fX3_setTo σ x0 x1 = some (σf, r)) : Con MtX3_setTo yX3_setTo l σ [rv x0, rv x1] σf (none) := by
  refine Con.of (by decide +kernel) rfl (fun h => absurd (show false = true from h) (by decide)) (by simp only [sl_n, sl_r, sl_i, sl_l]; exact Nat.le_of_ble_eq_true rfl) ?_
  rw [show lv_args 0 [rv x0, rv x1] = [(0, rv x0), (1, rv x1)] by simp only [la_n, la_r, la_i, la_l] <;> rfl]
  have hX1 : ((l, σ, σf, .inl (none)) : Xt).2.2.1 = σf := rfl
  have hX2 : ((l, σ, σf, .inl (none)) : Xt).2.2.2 = .inl (none) := rfl
  unfold fX3_setTo at hf
  refine g_aload_n (j := 0) dX3_setTo_0 rfl rfl ?_
  obtain ⟨v1, ev1, hf⟩ := ob hf
  refine g_getF dX3_setTo_1 ev1 t_56 hin7 hc7 (by decide) rfl ?_
  obtain ⟨v2, ev2, hf⟩ := ob hf
  refine g_alen dX3_setTo_4 ev2 ?_
  refine g_aload_n (j := 1) dX3_setTo_5 rfl rfl ?_
  obtain ⟨v3, ev3, hf⟩ := ob hf
  refine g_getI dX3_setTo_6 ev3 t_58 hin7 hc7 (by decide) rfl ?_
  refine g_icmp_ge (tgt := 24) dX3_setTo_9 (by decide) (fun c4 => ?_) (fun c4 => ?_)
  · rw [if_pos c4] at hf
    exact bX3_setTo_24 hX1 hX2 hf
  · rw [if_neg c4] at hf
    refine g_aload_n (j := 0) dX3_setTo_12 rfl rfl ?_
    refine g_aload_n (j := 1) dX3_setTo_13 rfl rfl ?_
    obtain ⟨v5, ev5, hf⟩ := ob hf
    refine g_getI dX3_setTo_14 ev5 t_58 hin7 hc7 (by decide) rfl ?_
    refine g_iconst (v := 2) dX3_setTo_17 (by decide) ?_
    refine g_imul dX3_setTo_18 ?_
    obtain ⟨σ6, eσ6, hf⟩ := ob hf
    obtain ⟨a7, ea7, hf⟩ := nm_el hf
    refine g_newa9 dX3_setTo_19 eσ6 (by decide) rfl (by decide) rfl t_66 ea7 ?_
    obtain ⟨σ8, eσ8, hf⟩ := ob hf
    refine g_putF dX3_setTo_21 eσ8 (Or.inl t_56) hin7 hc7 (by decide) hty7 hnm7 (Or.inl rfl) rfl ?_
    exact bX3_setTo_24 hX1 hX2 hf

theorem okX3_setTo (M : Mt) (h1 : 1 + 1 ≤ M.2.2.2.2.1) (h2 : 8 + (3 + 11) + 84 ≤ M.2.2.2.2.2.1) : CallOk M MtX3_setTo yX3_setTo 1 := ⟨t_866, h1, h2, ⟨by decide, by decide⟩, by decide +kernel, t_3⟩
abbrev MtX3_isLong : Mt := (cX3_isLong, 1, "ExactlySaid$Nat", (Option.some Jvm.ClassFile.FieldType.boolean), 1, 84, false)
set_option maxRecDepth 100000 in
set_option maxHeartbeats 4000000 in
theorem wX3_isLong (l : Launch) {σ σf : St} {x0 : Nat} {r : Int32} (hf : fX3_isLong σ x0 = some (σf, r)) : Con MtX3_isLong yX3_isLong l σ [rv x0] σf (some (.int r)) := by
  refine Con.of (by decide +kernel) rfl (fun h => absurd (show false = true from h) (by decide)) (by simp only [sl_n, sl_r, sl_i, sl_l]; exact Nat.le_of_ble_eq_true rfl) ?_
  rw [show lv_args 0 [rv x0] = [(0, rv x0)] by simp only [la_n, la_r, la_i, la_l] <;> rfl]
  have hX1 : ((l, σ, σf, .inl (some (.int r))) : Xt).2.2.1 = σf := rfl
  have hX2 : ((l, σ, σf, .inl (some (.int r))) : Xt).2.2.2 = .inl (some (.int r)) := rfl
  unfold fX3_isLong at hf
  refine g_aload_n (j := 0) dX3_isLong_0 rfl rfl ?_
  obtain ⟨v1, ev1, hf⟩ := ob hf
  refine g_getI dX3_isLong_1 ev1 t_58 hin7 hc7 (by decide) rfl ?_
  refine g_iconst (v := 2) dX3_isLong_4 (by decide) ?_
  refine g_icmp_gt (tgt := 12) dX3_isLong_5 (by decide) (fun c2 => ?_) (fun c2 => ?_)
  · rw [if_pos c2] at hf
    refine g_iconst (v := 0) dX3_isLong_12 (by decide) ?_
    exact g_iret dX3_isLong_13 rfl (by decide) hX2 hX1 hf
  · rw [if_neg c2] at hf
    refine g_iconst (v := 1) dX3_isLong_8 (by decide) ?_
    refine g_goto (tgt := 13) dX3_isLong_9 (by decide) ?_
    exact g_iret dX3_isLong_13 rfl (by decide) hX2 hX1 hf

theorem okX3_isLong (M : Mt) (h1 : 1 + 1 ≤ M.2.2.2.2.1) (h2 : 8 + (1 + 11) + 84 ≤ M.2.2.2.2.2.1) : CallOk M MtX3_isLong yX3_isLong 0 := ⟨t_884, h1, h2, ⟨by decide, by decide⟩, by decide +kernel, t_3⟩
abbrev MtX3_against : Mt := (cX3_against, 3, "ExactlySaid$Nat", (Option.some Jvm.ClassFile.FieldType.int), 1, 84, false)
set_option maxRecDepth 100000 in
set_option maxHeartbeats 4000000 in
theorem bX3_against_35 {X : Xt} {σf : St} {r : Int32} (hX1 : X.2.2.1 = σf) (hX2 : X.2.2.2 = .inl (some (.int r))) : ∀ (n : Nat) (σ : St) (x0 : Nat) (x1 : Nat) (x2 : Int32), fX3_against_35 n σ x0 x1 x2 = some (σf, r) → G MtX3_against X σ 35 [(0, rv x0), (1, rv x1), (2, .int x2)] [] := by
  intro n
  induction n with
  | zero => intro σ x0 x1 x2 hf; cases hf
  | succ n ih =>
    intro σ x0 x1 x2 hf
    rw [fX3_against_35] at hf
    refine g_iload_n (j := 2) dX3_against_35 rfl rfl ?_
    refine g_if_lt (tgt := 81) dX3_against_36 (by decide) (fun c1 => ?_) (fun c1 => ?_)
    · rw [if_pos c1] at hf
      refine g_iconst (v := 0) dX3_against_81 (by decide) ?_
      exact g_iret dX3_against_82 rfl rfl hX2 hX1 hf
    · rw [if_neg c1] at hf
      refine g_aload_n (j := 0) dX3_against_39 rfl rfl ?_
      obtain ⟨v2, ev2, hf⟩ := ob hf
      refine g_getF dX3_against_40 ev2 t_56 hin7 hc7 (by decide) rfl ?_
      refine g_iload_n (j := 2) dX3_against_43 rfl rfl ?_
      obtain ⟨v3, ev3, hf⟩ := ob hf
      refine g_iald dX3_against_44 ev3 ?_
      refine g_aload_n (j := 1) dX3_against_45 rfl rfl ?_
      obtain ⟨v4, ev4, hf⟩ := ob hf
      refine g_getF dX3_against_46 ev4 t_56 hin7 hc7 (by decide) rfl ?_
      refine g_iload_n (j := 2) dX3_against_49 rfl rfl ?_
      obtain ⟨v5, ev5, hf⟩ := ob hf
      refine g_iald dX3_against_50 ev5 ?_
      refine g_icmp_eq (tgt := 75) dX3_against_51 (by decide) (fun c6 => ?_) (fun c6 => ?_)
      · rw [if_pos c6] at hf
        obtain ⟨v7, ev7, hf⟩ := nm_el hf
        refine g_iinc (L' := [(2, .int v7), (0, rv x0), (1, rv x1)]) (j := 2) (v := v7) dX3_against_75 rfl (by rw [ev7]; rfl) (Nat.le_of_ble_eq_true rfl) (by simp [rv_cat]) ?_
        refine g_goto (tgt := 35) dX3_against_78 (by decide) ?_
        refine g_sub (L' := [(0, rv x0), (1, rv x1), (2, .int v7)]) [1, 2, 0] rfl ?_
        exact ih _ _ _ _ hf
      · rw [if_neg c6] at hf
        refine g_aload_n (j := 0) dX3_against_54 rfl rfl ?_
        obtain ⟨v8, ev8, hf⟩ := ob hf
        refine g_getF dX3_against_55 ev8 t_56 hin7 hc7 (by decide) rfl ?_
        refine g_iload_n (j := 2) dX3_against_58 rfl rfl ?_
        obtain ⟨v9, ev9, hf⟩ := ob hf
        refine g_iald dX3_against_59 ev9 ?_
        refine g_aload_n (j := 1) dX3_against_60 rfl rfl ?_
        obtain ⟨v10, ev10, hf⟩ := ob hf
        refine g_getF dX3_against_61 ev10 t_56 hin7 hc7 (by decide) rfl ?_
        refine g_iload_n (j := 2) dX3_against_64 rfl rfl ?_
        obtain ⟨v11, ev11, hf⟩ := ob hf
        refine g_iald dX3_against_65 ev11 ?_
        refine g_icmp_ge (tgt := 73) dX3_against_66 (by decide) (fun c12 => ?_) (fun c12 => ?_)
        · rw [if_pos c12] at hf
          refine g_iconst (v := 1) dX3_against_73 (by decide) ?_
          exact g_iret dX3_against_74 rfl rfl hX2 hX1 hf
        · rw [if_neg c12] at hf
          refine g_iconst (v := (-1)) dX3_against_69 (by decide) ?_
          refine g_goto (tgt := 74) dX3_against_70 (by decide) ?_
          exact g_iret dX3_against_74 rfl rfl hX2 hX1 hf

set_option maxRecDepth 100000 in
set_option maxHeartbeats 4000000 in
theorem wX3_against (l : Launch) {σ σf : St} {x0 : Nat} {x1 : Nat} {r : Int32} (hf : fX3_against σ x0 x1 = some (σf, r)) : Con MtX3_against yX3_against l σ [rv x0, rv x1] σf (some (.int r)) := by
  refine Con.of (by decide +kernel) rfl (fun h => absurd (show false = true from h) (by decide)) (by simp only [sl_n, sl_r, sl_i, sl_l]; exact Nat.le_of_ble_eq_true rfl) ?_
  rw [show lv_args 0 [rv x0, rv x1] = [(0, rv x0), (1, rv x1)] by simp only [la_n, la_r, la_i, la_l] <;> rfl]
  have hX1 : ((l, σ, σf, .inl (some (.int r))) : Xt).2.2.1 = σf := rfl
  have hX2 : ((l, σ, σf, .inl (some (.int r))) : Xt).2.2.2 = .inl (some (.int r)) := rfl
  unfold fX3_against at hf
  refine g_aload_n (j := 0) dX3_against_0 rfl rfl ?_
  obtain ⟨v1, ev1, hf⟩ := ob hf
  refine g_getI dX3_against_1 ev1 t_58 hin7 hc7 (by decide) rfl ?_
  refine g_aload_n (j := 1) dX3_against_4 rfl rfl ?_
  obtain ⟨v2, ev2, hf⟩ := ob hf
  refine g_getI dX3_against_5 ev2 t_58 hin7 hc7 (by decide) rfl ?_
  refine g_icmp_eq (tgt := 28) dX3_against_8 (by decide) (fun c3 => ?_) (fun c3 => ?_)
  · rw [if_pos c3] at hf
    refine g_aload_n (j := 0) dX3_against_28 rfl rfl ?_
    obtain ⟨v4, ev4, hf⟩ := ob hf
    refine g_getI dX3_against_29 ev4 t_58 hin7 hc7 (by decide) rfl ?_
    refine g_iconst (v := 1) dX3_against_32 (by decide) ?_
    refine g_isub dX3_against_33 ?_
    obtain ⟨v5, ev5, hf⟩ := nm_el hf
    refine g_topI ev5 ?_
    refine g_istore_n (i := 2) (L' := [(2, .int v5), (0, rv x0), (1, rv x1)]) dX3_against_34 rfl (Nat.le_of_ble_eq_true rfl) (by simp [rv_cat]) ?_
    refine g_sub (L' := [(0, rv x0), (1, rv x1), (2, .int v5)]) [1, 2, 0] rfl ?_
    exact bX3_against_35 hX1 hX2 FU _ _ _ _ hf
  · rw [if_neg c3] at hf
    refine g_aload_n (j := 0) dX3_against_11 rfl rfl ?_
    obtain ⟨v6, ev6, hf⟩ := ob hf
    refine g_getI dX3_against_12 ev6 t_58 hin7 hc7 (by decide) rfl ?_
    refine g_aload_n (j := 1) dX3_against_15 rfl rfl ?_
    obtain ⟨v7, ev7, hf⟩ := ob hf
    refine g_getI dX3_against_16 ev7 t_58 hin7 hc7 (by decide) rfl ?_
    refine g_icmp_ge (tgt := 26) dX3_against_19 (by decide) (fun c8 => ?_) (fun c8 => ?_)
    · rw [if_pos c8] at hf
      refine g_iconst (v := 1) dX3_against_26 (by decide) ?_
      exact g_iret dX3_against_27 rfl rfl hX2 hX1 hf
    · rw [if_neg c8] at hf
      refine g_iconst (v := (-1)) dX3_against_22 (by decide) ?_
      refine g_goto (tgt := 27) dX3_against_23 (by decide) ?_
      exact g_iret dX3_against_27 rfl rfl hX2 hX1 hf

theorem okX3_against (M : Mt) (h1 : 1 + 1 ≤ M.2.2.2.2.1) (h2 : 8 + (3 + 11) + 84 ≤ M.2.2.2.2.2.1) : CallOk M MtX3_against yX3_against 1 := ⟨t_911, h1, h2, ⟨by decide, by decide⟩, by decide +kernel, t_3⟩
abbrev MtX3_lower : Mt := (cX3_lower, 5, "ExactlySaid$Nat", (Option.some Jvm.ClassFile.FieldType.int), 1, 84, false)
set_option maxRecDepth 100000 in
set_option maxHeartbeats 4000000 in
theorem bX3_lower_91 {X : Xt} {σf : St} {r : Int32} (hX1 : X.2.2.1 = σf) (hX2 : X.2.2.2 = .inl (some (.int r))) {σ : St} {x2 : Int64} (hf : fX3_lower_91 σ x2 = some (σf, r)) : G MtX3_lower X σ 91 [(2, .long x2)] [] := by
  unfold fX3_lower_91 at hf
  refine g_lload_n (j := 0) dX3_lower_91 rfl rfl ?_
  refine g_l2i dX3_lower_92 rfl ?_
  exact g_iret dX3_lower_93 rfl rfl hX2 hX1 hf

set_option maxRecDepth 100000 in
set_option maxHeartbeats 4000000 in
theorem bX3_lower_17 {X : Xt} {σf : St} {r : Int32} (hX1 : X.2.2.1 = σf) (hX2 : X.2.2.2 = .inl (some (.int r))) : ∀ (n : Nat) (σ : St) (x0 : Nat) (x1 : Int32) (x2 : Int64) (x4 : Int32), fX3_lower_17 n σ x0 x1 x2 x4 = some (σf, r) → G MtX3_lower X σ 17 [(0, rv x0), (1, .int x1), (2, .long x2), (4, .int x4)] [] := by
  intro n
  induction n with
  | zero => intro σ x0 x1 x2 x4 hf; cases hf
  | succ n ih =>
    intro σ x0 x1 x2 x4 hf
    rw [fX3_lower_17] at hf
    refine g_iload (j := 3) dX3_lower_17 rfl ?_
    refine g_if_lt (tgt := 60) dX3_lower_19 (by decide) (fun c1 => ?_) (fun c1 => ?_)
    · rw [if_pos c1] at hf
      refine g_aload_n (j := 0) dX3_lower_60 rfl rfl ?_
      obtain ⟨v2, ev2, hf⟩ := ob hf
      refine g_getI dX3_lower_61 ev2 t_58 hin7 hc7 (by decide) rfl ?_
      refine g_if_le (tgt := 91) dX3_lower_64 (by decide) (fun c3 => ?_) (fun c3 => ?_)
      · rw [if_pos c3] at hf
        refine g_sub (L' := [(2, .long x2)]) [2] rfl ?_
        exact bX3_lower_91 hX1 hX2 hf
      · rw [if_neg c3] at hf
        refine g_aload_n (j := 0) dX3_lower_67 rfl rfl ?_
        obtain ⟨v4, ev4, hf⟩ := ob hf
        refine g_getF dX3_lower_68 ev4 t_56 hin7 hc7 (by decide) rfl ?_
        refine g_aload_n (j := 0) dX3_lower_71 rfl rfl ?_
        obtain ⟨v5, ev5, hf⟩ := ob hf
        refine g_getI dX3_lower_72 ev5 t_58 hin7 hc7 (by decide) rfl ?_
        refine g_iconst (v := 1) dX3_lower_75 (by decide) ?_
        refine g_isub dX3_lower_76 ?_
        obtain ⟨v6, ev6, hf⟩ := ob hf
        refine g_iald dX3_lower_77 ev6 ?_
        refine g_if_ne (tgt := 91) dX3_lower_78 (by decide) (fun c7 => ?_) (fun c7 => ?_)
        · rw [if_neg c7] at hf
          refine g_sub (L' := [(2, .long x2)]) [2] rfl ?_
          exact bX3_lower_91 hX1 hX2 hf
        · rw [if_pos c7] at hf
          refine g_aload_n (j := 0) dX3_lower_81 rfl rfl ?_
          refine g_dup dX3_lower_82 (rv_cat _) ?_
          obtain ⟨v8, ev8, hf⟩ := ob hf
          refine g_getI dX3_lower_83 ev8 t_58 hin7 hc7 (by decide) rfl ?_
          refine g_iconst (v := 1) dX3_lower_86 (by decide) ?_
          refine g_isub dX3_lower_87 ?_
          obtain ⟨σ9, eσ9, hf⟩ := ob hf
          refine g_putI dX3_lower_88 eσ9 (Or.inl t_58) hin7 hc7 (by decide) hty7 hnm7 (Or.inl rfl) rfl rfl rfl ?_
          refine g_sub (L' := [(2, .long x2)]) [2] rfl ?_
          exact bX3_lower_91 hX1 hX2 hf
    · rw [if_neg c1] at hf
      refine g_lload_n (j := 2) dX3_lower_22 rfl rfl ?_
      refine g_ldc2 (v := 1000000000) dX3_lower_23 t_71 ?_
      refine g_lmul dX3_lower_26 ?_
      refine g_aload_n (j := 0) dX3_lower_27 rfl rfl ?_
      obtain ⟨v10, ev10, hf⟩ := ob hf
      refine g_getF dX3_lower_28 ev10 t_56 hin7 hc7 (by decide) rfl ?_
      refine g_iload (j := 3) dX3_lower_31 rfl ?_
      obtain ⟨v11, ev11, hf⟩ := ob hf
      refine g_iald dX3_lower_33 ev11 ?_
      refine g_i2l dX3_lower_34 rfl ?_
      refine g_ladd dX3_lower_35 ?_
      obtain ⟨v12, ev12, hf⟩ := nm_el hf
      refine g_topL ev12 ?_
      refine g_lstore_n (i := 2) (L' := [(2, .long v12), (0, rv x0), (1, .int x1), (4, .int x4)]) dX3_lower_36 rfl (Nat.le_of_ble_eq_true rfl) rfl ?_
      refine g_aload_n (j := 1) dX3_lower_37 rfl rfl ?_
      obtain ⟨v13, ev13, hf⟩ := ob hf
      refine g_getF dX3_lower_38 ev13 t_56 hin7 hc7 (by decide) rfl ?_
      refine g_iload (j := 3) dX3_lower_41 rfl ?_
      refine g_lload_n (j := 0) dX3_lower_43 rfl rfl ?_
      refine g_iload_n (j := 2) dX3_lower_44 rfl rfl ?_
      refine g_i2l dX3_lower_45 rfl ?_
      obtain ⟨_, h14, hf⟩ := ob hf
      refine g_ldiv dX3_lower_46 (ckDL_el h14) ?_
      refine g_l2i dX3_lower_47 rfl ?_
      obtain ⟨σ15, eσ15, hf⟩ := ob hf
      refine g_iast dX3_lower_48 eσ15 ?_
      refine g_lload_n (j := 0) dX3_lower_49 rfl rfl ?_
      refine g_iload_n (j := 2) dX3_lower_50 rfl rfl ?_
      refine g_i2l dX3_lower_51 rfl ?_
      obtain ⟨_, h16, hf⟩ := ob hf
      refine g_lrem dX3_lower_52 (ckDL_el h16) ?_
      obtain ⟨v17, ev17, hf⟩ := nm_el hf
      refine g_topL ev17 ?_
      refine g_lstore_n (i := 2) (L' := [(2, .long v17), (0, rv x0), (1, .int x1), (4, .int x4)]) dX3_lower_53 rfl (Nat.le_of_ble_eq_true rfl) rfl ?_
      obtain ⟨v18, ev18, hf⟩ := nm_el hf
      refine g_iinc (L' := [(4, .int v18), (2, .long v17), (0, rv x0), (1, .int x1)]) (j := 3) (v := v18) dX3_lower_54 rfl (by rw [ev18]; rfl) (Nat.le_of_ble_eq_true rfl) rfl ?_
      refine g_goto (tgt := 17) dX3_lower_57 (by decide) ?_
      refine g_sub (L' := [(0, rv x0), (1, .int x1), (2, .long v17), (4, .int v18)]) [2, 3, 1, 0] rfl ?_
      exact ih _ _ _ _ _ hf

set_option maxRecDepth 100000 in
set_option maxHeartbeats 4000000 in
theorem wX3_lower (l : Launch) {σ σf : St} {x0 : Nat} {x1 : Int32} {r : Int32} (hf : fX3_lower σ x0 x1 = some (σf, r)) : Con MtX3_lower yX3_lower l σ [rv x0, .int x1] σf (some (.int r)) := by
  refine Con.of (by decide +kernel) rfl (fun h => absurd (show false = true from h) (by decide)) (by simp only [sl_n, sl_r, sl_i, sl_l]; exact Nat.le_of_ble_eq_true rfl) ?_
  rw [show lv_args 0 [rv x0, .int x1] = [(0, rv x0), (1, .int x1)] by simp only [la_n, la_r, la_i, la_l] <;> rfl]
  have hX1 : ((l, σ, σf, .inl (some (.int r))) : Xt).2.2.1 = σf := rfl
  have hX2 : ((l, σ, σf, .inl (some (.int r))) : Xt).2.2.2 = .inl (some (.int r)) := rfl
  unfold fX3_lower at hf
  refine g_iload_n (j := 1) dX3_lower_0 rfl rfl ?_
  refine g_iconst (v := 1) dX3_lower_1 (by decide) ?_
  refine g_icmp_ge (tgt := 7) dX3_lower_2 (by decide) (fun c1 => ?_) (fun c1 => ?_)
  · rw [if_pos c1] at hf
    refine g_lconst (v := 0) dX3_lower_7 (by decide) ?_
    refine g_lstore_n (i := 2) (L' := [(2, .long 0), (0, rv x0), (1, .int x1)]) dX3_lower_8 rfl (Nat.le_of_ble_eq_true rfl) rfl ?_
    refine g_aload_n (j := 1) dX3_lower_9 rfl rfl ?_
    obtain ⟨v2, ev2, hf⟩ := ob hf
    refine g_getI dX3_lower_10 ev2 t_58 hin7 hc7 (by decide) rfl ?_
    refine g_iconst (v := 1) dX3_lower_13 (by decide) ?_
    refine g_isub dX3_lower_14 ?_
    obtain ⟨v3, ev3, hf⟩ := nm_el hf
    refine g_topI ev3 ?_
    refine g_istore (i := 4) (L' := [(4, .int v3), (2, .long 0), (0, rv x0), (1, .int x1)]) dX3_lower_15 (Nat.le_of_ble_eq_true rfl) rfl ?_
    refine g_sub (L' := [(0, rv x0), (1, .int x1), (2, .long 0), (4, .int v3)]) [2, 3, 1, 0] rfl ?_
    exact bX3_lower_17 hX1 hX2 FU _ _ _ _ _ hf
  · rw [if_neg c1] at hf
    refine g_iconst (v := 0) dX3_lower_5 (by decide) ?_
    exact g_iret dX3_lower_6 rfl rfl hX2 hX1 hf

theorem okX3_lower (M : Mt) (h1 : 1 + 1 ≤ M.2.2.2.2.1) (h2 : 8 + (5 + 11) + 84 ≤ M.2.2.2.2.2.1) : CallOk M MtX3_lower yX3_lower 1 := ⟨t_874, h1, h2, ⟨by decide, by decide⟩, by decide +kernel, t_3⟩
abbrev MtX3_trim : Mt := (cX3_trim, 1, "ExactlySaid$Nat", none, 1, 84, false)
set_option maxRecDepth 100000 in
set_option maxHeartbeats 4000000 in
theorem bX3_trim_0 {X : Xt} {σf : St} {r : Unit} (hX1 : X.2.2.1 = σf) (hX2 : X.2.2.2 = .inl (none)) : ∀ (n : Nat) (σ : St) (x0 : Nat), fX3_trim_0 n σ x0 = some (σf, r) → G MtX3_trim X σ 0 [(0, rv x0)] [] := by
  intro n
  induction n with
  | zero => intro σ x0 hf; cases hf
  | succ n ih =>
    intro σ x0 hf
    rw [fX3_trim_0] at hf
    refine g_aload_n (j := 0) dX3_trim_0 rfl rfl ?_
    obtain ⟨v1, ev1, hf⟩ := ob hf
    refine g_getI dX3_trim_1 ev1 t_58 hin7 hc7 (by decide) rfl ?_
    refine g_if_le (tgt := 34) dX3_trim_4 (by decide) (fun c2 => ?_) (fun c2 => ?_)
    · rw [if_pos c2] at hf
      exact g_vret dX3_trim_34 rfl hX2 hX1 hf
    · rw [if_neg c2] at hf
      refine g_aload_n (j := 0) dX3_trim_7 rfl rfl ?_
      obtain ⟨v3, ev3, hf⟩ := ob hf
      refine g_getF dX3_trim_8 ev3 t_56 hin7 hc7 (by decide) rfl ?_
      refine g_aload_n (j := 0) dX3_trim_11 rfl rfl ?_
      obtain ⟨v4, ev4, hf⟩ := ob hf
      refine g_getI dX3_trim_12 ev4 t_58 hin7 hc7 (by decide) rfl ?_
      refine g_iconst (v := 1) dX3_trim_15 (by decide) ?_
      refine g_isub dX3_trim_16 ?_
      obtain ⟨v5, ev5, hf⟩ := ob hf
      refine g_iald dX3_trim_17 ev5 ?_
      refine g_if_ne (tgt := 34) dX3_trim_18 (by decide) (fun c6 => ?_) (fun c6 => ?_)
      · rw [if_neg c6] at hf
        exact g_vret dX3_trim_34 rfl hX2 hX1 hf
      · rw [if_pos c6] at hf
        refine g_aload_n (j := 0) dX3_trim_21 rfl rfl ?_
        refine g_dup dX3_trim_22 (rv_cat _) ?_
        obtain ⟨v7, ev7, hf⟩ := ob hf
        refine g_getI dX3_trim_23 ev7 t_58 hin7 hc7 (by decide) rfl ?_
        refine g_iconst (v := 1) dX3_trim_26 (by decide) ?_
        refine g_isub dX3_trim_27 ?_
        obtain ⟨σ8, eσ8, hf⟩ := ob hf
        refine g_putI dX3_trim_28 eσ8 (Or.inl t_58) hin7 hc7 (by decide) hty7 hnm7 (Or.inl rfl) rfl rfl rfl ?_
        refine g_goto (tgt := 0) dX3_trim_31 (by decide) ?_
        exact ih _ _ hf

set_option maxRecDepth 100000 in
set_option maxHeartbeats 4000000 in
theorem wX3_trim (l : Launch) {σ σf : St} {x0 : Nat} {r : Unit} (hf : fX3_trim σ x0 = some (σf, r)) : Con MtX3_trim yX3_trim l σ [rv x0] σf (none) := by
  refine Con.of (by decide +kernel) rfl (fun h => absurd (show false = true from h) (by decide)) (by simp only [sl_n, sl_r, sl_i, sl_l]; exact Nat.le_of_ble_eq_true rfl) ?_
  rw [show lv_args 0 [rv x0] = [(0, rv x0)] by simp only [la_n, la_r, la_i, la_l] <;> rfl]
  exact bX3_trim_0 rfl rfl FU _ _ hf

theorem okX3_trim (M : Mt) (h1 : 1 + 1 ≤ M.2.2.2.2.1) (h2 : 8 + (1 + 11) + 84 ≤ M.2.2.2.2.2.1) : CallOk M MtX3_trim yX3_trim 0 := ⟨t_920, h1, h2, ⟨by decide, by decide⟩, by decide +kernel, t_3⟩
abbrev MtX3_asLong : Mt := (cX3_asLong, 3, "ExactlySaid$Nat", (Option.some Jvm.ClassFile.FieldType.long), 1, 84, false)
set_option maxRecDepth 100000 in
set_option maxHeartbeats 4000000 in
theorem bX3_asLong_42 {X : Xt} {σf : St} {r : Int64} (hX1 : X.2.2.1 = σf) (hX2 : X.2.2.2 = .inl (some (.long r))) {σ : St} {y0 : Int64} {y1 : Int32} (hf : fX3_asLong_42 σ y0 y1 = some (σf, r)) : G MtX3_asLong X σ 42 [] [.int y1, .long y0] := by
  unfold fX3_asLong_42 at hf
  refine g_i2l dX3_asLong_42 rfl ?_
  refine g_ladd dX3_asLong_43 ?_
  exact g_lret dX3_asLong_44 rfl hX2 hX1 hf

set_option maxRecDepth 100000 in
set_option maxHeartbeats 4000000 in
theorem bX3_asLong_19 {X : Xt} {σf : St} {r : Int64} (hX1 : X.2.2.1 = σf) (hX2 : X.2.2.2 = .inl (some (.long r))) {σ : St} {x0 : Nat} {y0 : Int64} (hf : fX3_asLong_19 σ x0 y0 = some (σf, r)) : G MtX3_asLong X σ 19 [(0, rv x0)] [.long y0] := by
  unfold fX3_asLong_19 at hf
  refine g_lstore_n (i := 1) (L' := [(1, .long y0), (0, rv x0)]) dX3_asLong_19 rfl (Nat.le_of_ble_eq_true rfl) (by simp [rv_cat]) ?_
  refine g_lload_n (j := 0) dX3_asLong_20 rfl rfl ?_
  refine g_ldc2 (v := 1000000000) dX3_asLong_21 t_71 ?_
  refine g_lmul dX3_asLong_24 ?_
  refine g_aload_n (j := 1) dX3_asLong_25 rfl rfl ?_
  obtain ⟨v1, ev1, hf⟩ := ob hf
  refine g_getI dX3_asLong_26 ev1 t_58 hin7 hc7 (by decide) rfl ?_
  refine g_if_le (tgt := 41) dX3_asLong_29 (by decide) (fun c2 => ?_) (fun c2 => ?_)
  · rw [if_pos c2] at hf
    refine g_iconst (v := 0) dX3_asLong_41 (by decide) ?_
    refine g_sub (L' := []) [] rfl ?_
    exact bX3_asLong_42 hX1 hX2 hf
  · rw [if_neg c2] at hf
    refine g_aload_n (j := 1) dX3_asLong_32 rfl rfl ?_
    obtain ⟨v3, ev3, hf⟩ := ob hf
    refine g_getF dX3_asLong_33 ev3 t_56 hin7 hc7 (by decide) rfl ?_
    refine g_iconst (v := 0) dX3_asLong_36 (by decide) ?_
    obtain ⟨v4, ev4, hf⟩ := ob hf
    refine g_iald dX3_asLong_37 ev4 ?_
    refine g_goto (tgt := 42) dX3_asLong_38 (by decide) ?_
    refine g_sub (L' := []) [] rfl ?_
    exact bX3_asLong_42 hX1 hX2 hf

set_option maxRecDepth 100000 in
set_option maxHeartbeats 4000000 in
theorem wX3_asLong (l : Launch) {σ σf : St} {x0 : Nat} {r : Int64} (hf : fX3_asLong σ x0 = some (σf, r)) : Con MtX3_asLong yX3_asLong l σ [rv x0] σf (some (.long r)) := by
  refine Con.of (by decide +kernel) rfl (fun h => absurd (show false = true from h) (by decide)) (by simp only [sl_n, sl_r, sl_i, sl_l]; exact Nat.le_of_ble_eq_true rfl) ?_
  rw [show lv_args 0 [rv x0] = [(0, rv x0)] by simp only [la_n, la_r, la_i, la_l] <;> rfl]
  have hX1 : ((l, σ, σf, .inl (some (.long r))) : Xt).2.2.1 = σf := rfl
  have hX2 : ((l, σ, σf, .inl (some (.long r))) : Xt).2.2.2 = .inl (some (.long r)) := rfl
  unfold fX3_asLong at hf
  refine g_aload_n (j := 0) dX3_asLong_0 rfl rfl ?_
  obtain ⟨v1, ev1, hf⟩ := ob hf
  refine g_getI dX3_asLong_1 ev1 t_58 hin7 hc7 (by decide) rfl ?_
  refine g_iconst (v := 1) dX3_asLong_4 (by decide) ?_
  refine g_icmp_le (tgt := 18) dX3_asLong_5 (by decide) (fun c2 => ?_) (fun c2 => ?_)
  · rw [if_pos c2] at hf
    refine g_lconst (v := 0) dX3_asLong_18 (by decide) ?_
    exact bX3_asLong_19 hX1 hX2 hf
  · rw [if_neg c2] at hf
    refine g_aload_n (j := 0) dX3_asLong_8 rfl rfl ?_
    obtain ⟨v3, ev3, hf⟩ := ob hf
    refine g_getF dX3_asLong_9 ev3 t_56 hin7 hc7 (by decide) rfl ?_
    refine g_iconst (v := 1) dX3_asLong_12 (by decide) ?_
    obtain ⟨v4, ev4, hf⟩ := ob hf
    refine g_iald dX3_asLong_13 ev4 ?_
    refine g_i2l dX3_asLong_14 rfl ?_
    refine g_goto (tgt := 19) dX3_asLong_15 (by decide) ?_
    exact bX3_asLong_19 hX1 hX2 hf

theorem okX3_asLong (M : Mt) (h1 : 1 + 1 ≤ M.2.2.2.2.1) (h2 : 8 + (3 + 11) + 84 ≤ M.2.2.2.2.2.1) : CallOk M MtX3_asLong yX3_asLong 0 := ⟨t_888, h1, h2, ⟨by decide, by decide⟩, by decide +kernel, t_3⟩
abbrev MtX3_isOne : Mt := (cX3_isOne, 1, "ExactlySaid$Nat", (Option.some Jvm.ClassFile.FieldType.boolean), 1, 84, false)
set_option maxRecDepth 100000 in
set_option maxHeartbeats 4000000 in
theorem wX3_isOne (l : Launch) {σ σf : St} {x0 : Nat} {r : Int32} (hf : fX3_isOne σ x0 = some (σf, r)) : Con MtX3_isOne yX3_isOne l σ [rv x0] σf (some (.int r)) := by
  refine Con.of (by decide +kernel) rfl (fun h => absurd (show false = true from h) (by decide)) (by simp only [sl_n, sl_r, sl_i, sl_l]; exact Nat.le_of_ble_eq_true rfl) ?_
  rw [show lv_args 0 [rv x0] = [(0, rv x0)] by simp only [la_n, la_r, la_i, la_l] <;> rfl]
  have hX1 : ((l, σ, σf, .inl (some (.int r))) : Xt).2.2.1 = σf := rfl
  have hX2 : ((l, σ, σf, .inl (some (.int r))) : Xt).2.2.2 = .inl (some (.int r)) := rfl
  unfold fX3_isOne at hf
  refine g_aload_n (j := 0) dX3_isOne_0 rfl rfl ?_
  obtain ⟨v1, ev1, hf⟩ := ob hf
  refine g_getI dX3_isOne_1 ev1 t_58 hin7 hc7 (by decide) rfl ?_
  refine g_iconst (v := 1) dX3_isOne_4 (by decide) ?_
  refine g_icmp_ne (tgt := 22) dX3_isOne_5 (by decide) (fun c2 => ?_) (fun c2 => ?_)
  · rw [if_neg c2] at hf
    refine g_iconst (v := 0) dX3_isOne_22 (by decide) ?_
    exact g_iret dX3_isOne_23 rfl (by decide) hX2 hX1 hf
  · rw [if_pos c2] at hf
    refine g_aload_n (j := 0) dX3_isOne_8 rfl rfl ?_
    obtain ⟨v3, ev3, hf⟩ := ob hf
    refine g_getF dX3_isOne_9 ev3 t_56 hin7 hc7 (by decide) rfl ?_
    refine g_iconst (v := 0) dX3_isOne_12 (by decide) ?_
    obtain ⟨v4, ev4, hf⟩ := ob hf
    refine g_iald dX3_isOne_13 ev4 ?_
    refine g_iconst (v := 1) dX3_isOne_14 (by decide) ?_
    refine g_icmp_ne (tgt := 22) dX3_isOne_15 (by decide) (fun c5 => ?_) (fun c5 => ?_)
    · rw [if_neg c5] at hf
      refine g_iconst (v := 0) dX3_isOne_22 (by decide) ?_
      exact g_iret dX3_isOne_23 rfl (by decide) hX2 hX1 hf
    · rw [if_pos c5] at hf
      refine g_iconst (v := 1) dX3_isOne_18 (by decide) ?_
      refine g_goto (tgt := 23) dX3_isOne_19 (by decide) ?_
      exact g_iret dX3_isOne_23 rfl (by decide) hX2 hX1 hf

theorem okX3_isOne (M : Mt) (h1 : 1 + 1 ≤ M.2.2.2.2.1) (h2 : 8 + (1 + 11) + 84 ≤ M.2.2.2.2.2.1) : CallOk M MtX3_isOne yX3_isOne 0 := ⟨t_857, h1, h2, ⟨by decide, by decide⟩, by decide +kernel, t_3⟩
abbrev MtX3_limb : Mt := (cX3_limb, 2, "ExactlySaid$Nat", (Option.some Jvm.ClassFile.FieldType.int), 1, 84, false)
set_option maxRecDepth 100000 in
set_option maxHeartbeats 4000000 in
theorem wX3_limb (l : Launch) {σ σf : St} {x0 : Nat} {x1 : Int32} {r : Int32} (hf : fX3_limb σ x0 x1 = some (σf, r)) : Con MtX3_limb yX3_limb l σ [rv x0, .int x1] σf (some (.int r)) := by
  refine Con.of (by decide +kernel) rfl (fun h => absurd (show false = true from h) (by decide)) (by simp only [sl_n, sl_r, sl_i, sl_l]; exact Nat.le_of_ble_eq_true rfl) ?_
  rw [show lv_args 0 [rv x0, .int x1] = [(0, rv x0), (1, .int x1)] by simp only [la_n, la_r, la_i, la_l] <;> rfl]
  have hX1 : ((l, σ, σf, .inl (some (.int r))) : Xt).2.2.1 = σf := rfl
  have hX2 : ((l, σ, σf, .inl (some (.int r))) : Xt).2.2.2 = .inl (some (.int r)) := rfl
  unfold fX3_limb at hf
  refine g_iload_n (j := 1) dX3_limb_0 rfl rfl ?_
  refine g_if_lt (tgt := 21) dX3_limb_1 (by decide) (fun c1 => ?_) (fun c1 => ?_)
  · rw [if_pos c1] at hf
    refine g_iconst (v := 0) dX3_limb_21 (by decide) ?_
    exact g_iret dX3_limb_22 rfl rfl hX2 hX1 hf
  · rw [if_neg c1] at hf
    refine g_iload_n (j := 1) dX3_limb_4 rfl rfl ?_
    refine g_aload_n (j := 0) dX3_limb_5 rfl rfl ?_
    obtain ⟨v2, ev2, hf⟩ := ob hf
    refine g_getI dX3_limb_6 ev2 t_58 hin7 hc7 (by decide) rfl ?_
    refine g_icmp_ge (tgt := 21) dX3_limb_9 (by decide) (fun c3 => ?_) (fun c3 => ?_)
    · rw [if_pos c3] at hf
      refine g_iconst (v := 0) dX3_limb_21 (by decide) ?_
      exact g_iret dX3_limb_22 rfl rfl hX2 hX1 hf
    · rw [if_neg c3] at hf
      refine g_aload_n (j := 0) dX3_limb_12 rfl rfl ?_
      obtain ⟨v4, ev4, hf⟩ := ob hf
      refine g_getF dX3_limb_13 ev4 t_56 hin7 hc7 (by decide) rfl ?_
      refine g_iload_n (j := 1) dX3_limb_16 rfl rfl ?_
      obtain ⟨v5, ev5, hf⟩ := ob hf
      refine g_iald dX3_limb_17 ev5 ?_
      refine g_goto (tgt := 22) dX3_limb_18 (by decide) ?_
      exact g_iret dX3_limb_22 rfl rfl hX2 hX1 hf

theorem okX3_limb (M : Mt) (h1 : 1 + 1 ≤ M.2.2.2.2.1) (h2 : 8 + (2 + 11) + 84 ≤ M.2.2.2.2.2.1) : CallOk M MtX3_limb yX3_limb 1 := ⟨t_849, h1, h2, ⟨by decide, by decide⟩, by decide +kernel, t_3⟩
abbrev MtX3_setProduct : Mt := (cX3_setProduct, 8, "ExactlySaid$Nat", none, 2, 104, false)
set_option maxRecDepth 100000 in
set_option maxHeartbeats 4000000 in
theorem bX3_setProduct_69 {X : Xt} {σf : St} {r : Unit} (hX1 : X.2.2.1 = σf) (hX2 : X.2.2.2 = .inl (none)) {k54 : St → Nat → Nat → Nat → Int32 → Int32 → Option (St × Unit)} (hk54 : ∀ (σ : St) (x0 : Nat) (x1 : Nat) (x2 : Nat) (x3 : Int32) (x4 : Int32), k54 σ x0 x1 x2 x3 x4 = some (σf, r) → G MtX3_setProduct X σ 54 [(0, rv x0), (1, rv x1), (2, rv x2), (3, .int x3), (4, .int x4)] []) : ∀ (n : Nat) (σ : St) (x0 : Nat) (x1 : Nat) (x2 : Nat) (x3 : Int32) (x4 : Int32) (x5 : Int64) (x7 : Int32), fX3_setProduct_69 k54 n σ x0 x1 x2 x3 x4 x5 x7 = some (σf, r) → G MtX3_setProduct X σ 69 [(0, rv x0), (1, rv x1), (2, rv x2), (3, .int x3), (4, .int x4), (5, .long x5), (7, .int x7)] [] := by
  intro n
  induction n with
  | zero => intro σ x0 x1 x2 x3 x4 x5 x7 hf; cases hf
  | succ n ih =>
    intro σ x0 x1 x2 x3 x4 x5 x7 hf
    rw [fX3_setProduct_69] at hf
    refine g_iload (j := 6) dX3_setProduct_69 rfl ?_
    refine g_aload_n (j := 2) dX3_setProduct_71 rfl rfl ?_
    obtain ⟨v1, ev1, hf⟩ := ob hf
    refine g_getI dX3_setProduct_72 ev1 t_58 hin7 hc7 (by decide) rfl ?_
    refine g_icmp_ge (tgt := 143) dX3_setProduct_75 (by decide) (fun c2 => ?_) (fun c2 => ?_)
    · rw [if_pos c2] at hf
      refine g_aload_n (j := 0) dX3_setProduct_143 rfl rfl ?_
      obtain ⟨v3, ev3, hf⟩ := ob hf
      refine g_getF dX3_setProduct_144 ev3 t_56 hin7 hc7 (by decide) rfl ?_
      refine g_iload (j := 4) dX3_setProduct_147 rfl ?_
      refine g_aload_n (j := 2) dX3_setProduct_149 rfl rfl ?_
      obtain ⟨v4, ev4, hf⟩ := ob hf
      refine g_getI dX3_setProduct_150 ev4 t_58 hin7 hc7 (by decide) rfl ?_
      refine g_iadd dX3_setProduct_153 ?_
      refine g_lload (j := 5) dX3_setProduct_154 rfl ?_
      refine g_l2i dX3_setProduct_156 rfl ?_
      obtain ⟨σ5, eσ5, hf⟩ := ob hf
      refine g_iast dX3_setProduct_157 eσ5 ?_
      obtain ⟨v6, ev6, hf⟩ := nm_el hf
      refine g_iinc (L' := [(4, .int v6), (0, rv x0), (1, rv x1), (2, rv x2), (3, .int x3), (5, .long x5), (7, .int x7)]) (j := 4) (v := v6) dX3_setProduct_158 rfl (by rw [ev6]; rfl) (Nat.le_of_ble_eq_true rfl) rfl ?_
      refine g_goto (tgt := 54) dX3_setProduct_161 (by decide) ?_
      refine g_sub (L' := [(0, rv x0), (1, rv x1), (2, rv x2), (3, .int x3), (4, .int v6)]) [1, 2, 3, 4, 0] rfl ?_
      exact hk54 _ _ _ _ _ _ hf
    · rw [if_neg c2] at hf
      refine g_lload (j := 5) dX3_setProduct_78 rfl ?_
      refine g_aload_n (j := 1) dX3_setProduct_80 rfl rfl ?_
      obtain ⟨v7, ev7, hf⟩ := ob hf
      refine g_getF dX3_setProduct_81 ev7 t_56 hin7 hc7 (by decide) rfl ?_
      refine g_iload (j := 4) dX3_setProduct_84 rfl ?_
      obtain ⟨v8, ev8, hf⟩ := ob hf
      refine g_iald dX3_setProduct_86 ev8 ?_
      refine g_i2l dX3_setProduct_87 rfl ?_
      refine g_aload_n (j := 2) dX3_setProduct_88 rfl rfl ?_
      obtain ⟨v9, ev9, hf⟩ := ob hf
      refine g_getF dX3_setProduct_89 ev9 t_56 hin7 hc7 (by decide) rfl ?_
      refine g_iload (j := 6) dX3_setProduct_92 rfl ?_
      obtain ⟨v10, ev10, hf⟩ := ob hf
      refine g_iald dX3_setProduct_94 ev10 ?_
      refine g_i2l dX3_setProduct_95 rfl ?_
      refine g_lmul dX3_setProduct_96 ?_
      refine g_aload_n (j := 0) dX3_setProduct_97 rfl rfl ?_
      obtain ⟨v11, ev11, hf⟩ := ob hf
      refine g_getF dX3_setProduct_98 ev11 t_56 hin7 hc7 (by decide) rfl ?_
      refine g_iload (j := 4) dX3_setProduct_101 rfl ?_
      refine g_iload (j := 6) dX3_setProduct_103 rfl ?_
      refine g_iadd dX3_setProduct_105 ?_
      obtain ⟨v12, ev12, hf⟩ := ob hf
      refine g_iald dX3_setProduct_106 ev12 ?_
      refine g_i2l dX3_setProduct_107 rfl ?_
      refine g_ladd dX3_setProduct_108 ?_
      refine g_ladd dX3_setProduct_109 ?_
      obtain ⟨v13, ev13, hf⟩ := nm_el hf
      refine g_topL ev13 ?_
      refine g_lstore (i := 5) (L' := [(5, .long v13), (0, rv x0), (1, rv x1), (2, rv x2), (3, .int x3), (4, .int x4), (7, .int x7)]) dX3_setProduct_110 (Nat.le_of_ble_eq_true rfl) rfl ?_
      refine g_aload_n (j := 1) dX3_setProduct_112 rfl rfl ?_
      obtain ⟨v14, ev14, hf⟩ := ob hf
      refine g_getF dX3_setProduct_113 ev14 t_56 hin7 hc7 (by decide) rfl ?_
      refine g_iload (j := 5) dX3_setProduct_116 rfl ?_
      refine g_iload (j := 6) dX3_setProduct_118 rfl ?_
      refine g_iadd dX3_setProduct_120 ?_
      refine g_lload (j := 0) dX3_setProduct_121 rfl ?_
      refine g_ldc2 (v := 1000000000) dX3_setProduct_123 t_71 ?_
      refine g_lrem dX3_setProduct_126 (by decide) ?_
      refine g_l2i dX3_setProduct_127 rfl ?_
      obtain ⟨σ15, eσ15, hf⟩ := ob hf
      refine g_iast dX3_setProduct_128 eσ15 ?_
      refine g_lload (j := 0) dX3_setProduct_129 rfl ?_
      refine g_ldc2 (v := 1000000000) dX3_setProduct_131 t_71 ?_
      refine g_ldiv dX3_setProduct_134 (by decide) ?_
      obtain ⟨v16, ev16, hf⟩ := nm_el hf
      refine g_topL ev16 ?_
      refine g_lstore (i := 5) (L' := [(5, .long v16), (0, rv x0), (1, rv x1), (2, rv x2), (3, .int x3), (4, .int x4), (7, .int x7)]) dX3_setProduct_135 (Nat.le_of_ble_eq_true rfl) rfl ?_
      obtain ⟨v17, ev17, hf⟩ := nm_el hf
      refine g_iinc (L' := [(7, .int v17), (5, .long v16), (0, rv x0), (1, rv x1), (2, rv x2), (3, .int x3), (4, .int x4)]) (j := 6) (v := v17) dX3_setProduct_137 rfl (by rw [ev17]; rfl) (Nat.le_of_ble_eq_true rfl) rfl ?_
      refine g_goto (tgt := 69) dX3_setProduct_140 (by decide) ?_
      refine g_sub (L' := [(0, rv x0), (1, rv x1), (2, rv x2), (3, .int x3), (4, .int x4), (5, .long v16), (7, .int v17)]) [2, 3, 4, 5, 6, 1, 0] rfl ?_
      exact ih _ _ _ _ _ _ _ _ hf

set_option maxRecDepth 100000 in
set_option maxHeartbeats 4000000 in
theorem bX3_setProduct_54 {X : Xt} {σf : St} {r : Unit} (hX1 : X.2.2.1 = σf) (hX2 : X.2.2.2 = .inl (none)) : ∀ (n : Nat) (σ : St) (x0 : Nat) (x1 : Nat) (x2 : Nat) (x3 : Int32) (x4 : Int32), fX3_setProduct_54 n σ x0 x1 x2 x3 x4 = some (σf, r) → G MtX3_setProduct X σ 54 [(0, rv x0), (1, rv x1), (2, rv x2), (3, .int x3), (4, .int x4)] [] := by
  intro n
  induction n with
  | zero => intro σ x0 x1 x2 x3 x4 hf; cases hf
  | succ n ih =>
    intro σ x0 x1 x2 x3 x4 hf
    rw [fX3_setProduct_54] at hf
    refine g_iload (j := 4) dX3_setProduct_54 rfl ?_
    refine g_aload_n (j := 1) dX3_setProduct_56 rfl rfl ?_
    obtain ⟨v1, ev1, hf⟩ := ob hf
    refine g_getI dX3_setProduct_57 ev1 t_58 hin7 hc7 (by decide) rfl ?_
    refine g_icmp_ge (tgt := 164) dX3_setProduct_60 (by decide) (fun c2 => ?_) (fun c2 => ?_)
    · rw [if_pos c2] at hf
      refine g_aload_n (j := 0) dX3_setProduct_164 rfl rfl ?_
      refine g_iload_n (j := 3) dX3_setProduct_165 rfl rfl ?_
      obtain ⟨σ3, eσ3, hf⟩ := ob hf
      refine g_putI dX3_setProduct_166 eσ3 (Or.inl t_58) hin7 hc7 (by decide) hty7 hnm7 (Or.inl rfl) rfl rfl rfl ?_
      refine g_aload_n (j := 0) dX3_setProduct_169 rfl rfl ?_
      obtain ⟨_, h6, hf⟩ := ob hf
      obtain ⟨σ4, v5, eσ4, hf⟩ := cb_el hf
      refine g_callV_v dX3_setProduct_170 (wX3_trim _ eσ4) (okX3_trim _ (by decide) (by decide)) (ckK_el h6) hc7 t_917 t_919 s_X3_trim rfl (Nat.le_trans (cat_le _) (Nat.le_of_ble_eq_true rfl)) rfl ?_
      exact g_vret dX3_setProduct_173 rfl hX2 hX1 hf
    · rw [if_neg c2] at hf
      refine g_lconst (v := 0) dX3_setProduct_63 (by decide) ?_
      refine g_lstore (i := 5) (L' := [(5, .long 0), (0, rv x0), (1, rv x1), (2, rv x2), (3, .int x3), (4, .int x4)]) dX3_setProduct_64 (Nat.le_of_ble_eq_true rfl) rfl ?_
      refine g_iconst (v := 0) dX3_setProduct_66 (by decide) ?_
      refine g_istore (i := 7) (L' := [(7, .int 0), (5, .long 0), (0, rv x0), (1, rv x1), (2, rv x2), (3, .int x3), (4, .int x4)]) dX3_setProduct_67 (Nat.le_of_ble_eq_true rfl) rfl ?_
      refine g_sub (L' := [(0, rv x0), (1, rv x1), (2, rv x2), (3, .int x3), (4, .int x4), (5, .long 0), (7, .int 0)]) [2, 3, 4, 5, 6, 1, 0] rfl ?_
      exact bX3_setProduct_69 hX1 hX2 (fun σ x0 x1 x2 x3 x4 hf => ih σ x0 x1 x2 x3 x4 hf) FU _ _ _ _ _ _ _ _ hf

set_option maxRecDepth 100000 in
set_option maxHeartbeats 4000000 in
theorem bX3_setProduct_31 {X : Xt} {σf : St} {r : Unit} (hX1 : X.2.2.1 = σf) (hX2 : X.2.2.2 = .inl (none)) : ∀ (n : Nat) (σ : St) (x0 : Nat) (x1 : Nat) (x2 : Nat) (x3 : Int32) (x4 : Int32), fX3_setProduct_31 n σ x0 x1 x2 x3 x4 = some (σf, r) → G MtX3_setProduct X σ 31 [(0, rv x0), (1, rv x1), (2, rv x2), (3, .int x3), (4, .int x4)] [] := by
  intro n
  induction n with
  | zero => intro σ x0 x1 x2 x3 x4 hf; cases hf
  | succ n ih =>
    intro σ x0 x1 x2 x3 x4 hf
    rw [fX3_setProduct_31] at hf
    refine g_iload (j := 4) dX3_setProduct_31 rfl ?_
    refine g_iload_n (j := 3) dX3_setProduct_33 rfl rfl ?_
    refine g_icmp_ge (tgt := 51) dX3_setProduct_34 (by decide) (fun c1 => ?_) (fun c1 => ?_)
    · rw [if_pos c1] at hf
      refine g_iconst (v := 0) dX3_setProduct_51 (by decide) ?_
      refine g_istore (i := 4) (L' := [(4, .int 0), (0, rv x0), (1, rv x1), (2, rv x2), (3, .int x3)]) dX3_setProduct_52 (Nat.le_of_ble_eq_true rfl) rfl ?_
      refine g_sub (L' := [(0, rv x0), (1, rv x1), (2, rv x2), (3, .int x3), (4, .int 0)]) [1, 2, 3, 4, 0] rfl ?_
      exact bX3_setProduct_54 hX1 hX2 FU _ _ _ _ _ _ hf
    · rw [if_neg c1] at hf
      refine g_aload_n (j := 0) dX3_setProduct_37 rfl rfl ?_
      obtain ⟨v2, ev2, hf⟩ := ob hf
      refine g_getF dX3_setProduct_38 ev2 t_56 hin7 hc7 (by decide) rfl ?_
      refine g_iload (j := 4) dX3_setProduct_41 rfl ?_
      refine g_iconst (v := 0) dX3_setProduct_43 (by decide) ?_
      obtain ⟨σ3, eσ3, hf⟩ := ob hf
      refine g_iast dX3_setProduct_44 eσ3 ?_
      obtain ⟨v4, ev4, hf⟩ := nm_el hf
      refine g_iinc (L' := [(4, .int v4), (0, rv x0), (1, rv x1), (2, rv x2), (3, .int x3)]) (j := 4) (v := v4) dX3_setProduct_45 rfl (by rw [ev4]; rfl) (Nat.le_of_ble_eq_true rfl) rfl ?_
      refine g_goto (tgt := 31) dX3_setProduct_48 (by decide) ?_
      refine g_sub (L' := [(0, rv x0), (1, rv x1), (2, rv x2), (3, .int x3), (4, .int v4)]) [1, 2, 3, 4, 0] rfl ?_
      exact ih _ _ _ _ _ _ hf

set_option maxRecDepth 100000 in
set_option maxHeartbeats 4000000 in
theorem bX3_setProduct_28 {X : Xt} {σf : St} {r : Unit} (hX1 : X.2.2.1 = σf) (hX2 : X.2.2.2 = .inl (none)) {σ : St} {x0 : Nat} {x1 : Nat} {x2 : Nat} {x3 : Int32} (hf : fX3_setProduct_28 σ x0 x1 x2 x3 = some (σf, r)) : G MtX3_setProduct X σ 28 [(0, rv x0), (1, rv x1), (2, rv x2), (3, .int x3)] [] := by
  unfold fX3_setProduct_28 at hf
  refine g_iconst (v := 0) dX3_setProduct_28 (by decide) ?_
  refine g_istore (i := 4) (L' := [(4, .int 0), (0, rv x0), (1, rv x1), (2, rv x2), (3, .int x3)]) dX3_setProduct_29 (Nat.le_of_ble_eq_true rfl) rfl ?_
  refine g_sub (L' := [(0, rv x0), (1, rv x1), (2, rv x2), (3, .int x3), (4, .int 0)]) [1, 2, 3, 4, 0] rfl ?_
  exact bX3_setProduct_31 hX1 hX2 FU _ _ _ _ _ _ hf

set_option maxRecDepth 100000 in
set_option maxHeartbeats 4000000 in
theorem wX3_setProduct (l : Launch) {σ σf : St} {x0 : Nat} {x1 : Nat} {x2 : Nat} {r : Unit} (hf : fX3_setProduct σ x0 x1 x2 = some (σf, r)) : Con MtX3_setProduct yX3_setProduct l σ [rv x0, rv x1, rv x2] σf (none) := by
  refine Con.of (by decide +kernel) rfl (fun h => absurd (show false = true from h) (by decide)) (by simp only [sl_n, sl_r, sl_i, sl_l]; exact Nat.le_of_ble_eq_true rfl) ?_
  rw [show lv_args 0 [rv x0, rv x1, rv x2] = [(0, rv x0), (1, rv x1), (2, rv x2)] by simp only [la_n, la_r, la_i, la_l] <;> rfl]
  have hX1 : ((l, σ, σf, .inl (none)) : Xt).2.2.1 = σf := rfl
  have hX2 : ((l, σ, σf, .inl (none)) : Xt).2.2.2 = .inl (none) := rfl
  unfold fX3_setProduct at hf
  refine g_aload_n (j := 1) dX3_setProduct_0 rfl rfl ?_
  obtain ⟨v1, ev1, hf⟩ := ob hf
  refine g_getI dX3_setProduct_1 ev1 t_58 hin7 hc7 (by decide) rfl ?_
  refine g_aload_n (j := 2) dX3_setProduct_4 rfl rfl ?_
  obtain ⟨v2, ev2, hf⟩ := ob hf
  refine g_getI dX3_setProduct_5 ev2 t_58 hin7 hc7 (by decide) rfl ?_
  refine g_iadd dX3_setProduct_8 ?_
  obtain ⟨v3, ev3, hf⟩ := nm_el hf
  refine g_topI ev3 ?_
  refine g_istore_n (i := 3) (L' := [(3, .int v3), (0, rv x0), (1, rv x1), (2, rv x2)]) dX3_setProduct_9 rfl (Nat.le_of_ble_eq_true rfl) (by simp [rv_cat]) ?_
  refine g_aload_n (j := 1) dX3_setProduct_10 rfl rfl ?_
  obtain ⟨v4, ev4, hf⟩ := ob hf
  refine g_getF dX3_setProduct_11 ev4 t_56 hin7 hc7 (by decide) rfl ?_
  obtain ⟨v5, ev5, hf⟩ := ob hf
  refine g_alen dX3_setProduct_14 ev5 ?_
  refine g_iload_n (j := 0) dX3_setProduct_15 rfl rfl ?_
  refine g_icmp_ge (tgt := 28) dX3_setProduct_16 (by decide) (fun c6 => ?_) (fun c6 => ?_)
  · rw [if_pos c6] at hf
    refine g_sub (L' := [(0, rv x0), (1, rv x1), (2, rv x2), (3, .int v3)]) [1, 2, 3, 0] rfl ?_
    exact bX3_setProduct_28 hX1 hX2 hf
  · rw [if_neg c6] at hf
    refine g_aload_n (j := 1) dX3_setProduct_19 rfl rfl ?_
    refine g_iload_n (j := 0) dX3_setProduct_20 rfl rfl ?_
    refine g_iconst (v := 2) dX3_setProduct_21 (by decide) ?_
    refine g_imul dX3_setProduct_22 ?_
    obtain ⟨σ7, eσ7, hf⟩ := ob hf
    obtain ⟨a8, ea8, hf⟩ := nm_el hf
    refine g_newa9 dX3_setProduct_23 eσ7 (by decide) rfl (by decide) rfl t_66 ea8 ?_
    obtain ⟨σ9, eσ9, hf⟩ := ob hf
    refine g_putF dX3_setProduct_25 eσ9 (Or.inl t_56) hin7 hc7 (by decide) hty7 hnm7 (Or.inl rfl) rfl ?_
    refine g_sub (L' := [(0, rv x0), (1, rv x1), (2, rv x2), (3, .int v3)]) [1, 2, 3, 0] rfl ?_
    exact bX3_setProduct_28 hX1 hX2 hf

theorem okX3_setProduct (M : Mt) (h1 : 2 + 1 ≤ M.2.2.2.2.1) (h2 : 8 + (8 + 11) + 104 ≤ M.2.2.2.2.2.1) : CallOk M MtX3_setProduct yX3_setProduct 2 := ⟨t_1060, h1, h2, ⟨by decide, by decide⟩, by decide +kernel, t_3⟩
abbrev MtX3_plus : Mt := (cX3_plus, 6, "ExactlySaid$Nat", none, 2, 142, false)
set_option maxRecDepth 100000 in
set_option maxHeartbeats 4000000 in
theorem bX3_plus_77 {X : Xt} {σf : St} {r : Unit} (hX1 : X.2.2.1 = σf) (hX2 : X.2.2.2 = .inl (none)) {k42 : St → Nat → Nat → Int32 → Int32 → Int32 → Option (St × Unit)} (hk42 : ∀ (σ : St) (x0 : Nat) (x1 : Nat) (x2 : Int32) (x3 : Int32) (x4 : Int32), k42 σ x0 x1 x2 x3 x4 = some (σf, r) → G MtX3_plus X σ 42 [(0, rv x0), (1, rv x1), (2, .int x2), (3, .int x3), (4, .int x4)] []) {σ : St} {x0 : Nat} {x1 : Nat} {x2 : Int32} {x4 : Int32} {x5 : Int32} {y0 : Int32} (hf : fX3_plus_77 k42 σ x0 x1 x2 x4 x5 y0 = some (σf, r)) : G MtX3_plus X σ 77 [(0, rv x0), (1, rv x1), (2, .int x2), (4, .int x4), (5, .int x5)] [.int y0] := by
  unfold fX3_plus_77 at hf
  refine g_istore_n (i := 3) (L' := [(3, .int y0), (0, rv x0), (1, rv x1), (2, .int x2), (4, .int x4), (5, .int x5)]) dX3_plus_77 rfl (Nat.le_of_ble_eq_true rfl) rfl ?_
  refine g_aload_n (j := 1) dX3_plus_78 rfl rfl ?_
  obtain ⟨v1, ev1, hf⟩ := ob hf
  refine g_getF dX3_plus_79 ev1 t_56 hin7 hc7 (by decide) rfl ?_
  refine g_iload (j := 4) dX3_plus_82 rfl ?_
  refine g_iload (j := 5) dX3_plus_84 rfl ?_
  refine g_iload_n (j := 0) dX3_plus_86 rfl rfl ?_
  refine g_ldc (v := 1000000000) dX3_plus_87 t_916 ?_
  refine g_imul dX3_plus_89 ?_
  refine g_isub dX3_plus_90 ?_
  obtain ⟨σ2, eσ2, hf⟩ := ob hf
  refine g_iast dX3_plus_91 eσ2 ?_
  obtain ⟨v3, ev3, hf⟩ := nm_el hf
  refine g_iinc (L' := [(4, .int v3), (3, .int y0), (0, rv x0), (1, rv x1), (2, .int x2), (5, .int x5)]) (j := 4) (v := v3) dX3_plus_92 rfl (by rw [ev3]; rfl) (Nat.le_of_ble_eq_true rfl) rfl ?_
  refine g_goto (tgt := 42) dX3_plus_95 (by decide) ?_
  refine g_sub (L' := [(0, rv x0), (1, rv x1), (2, .int x2), (3, .int y0), (4, .int v3)]) [2, 3, 4, 1, 0] rfl ?_
  exact hk42 _ _ _ _ _ _ hf

set_option maxRecDepth 100000 in
set_option maxHeartbeats 4000000 in
theorem bX3_plus_42 {X : Xt} {σf : St} {r : Unit} (hX1 : X.2.2.1 = σf) (hX2 : X.2.2.2 = .inl (none)) : ∀ (n : Nat) (σ : St) (x0 : Nat) (x1 : Nat) (x2 : Int32) (x3 : Int32) (x4 : Int32), fX3_plus_42 n σ x0 x1 x2 x3 x4 = some (σf, r) → G MtX3_plus X σ 42 [(0, rv x0), (1, rv x1), (2, .int x2), (3, .int x3), (4, .int x4)] [] := by
  intro n
  induction n with
  | zero => intro σ x0 x1 x2 x3 x4 hf; cases hf
  | succ n ih =>
    intro σ x0 x1 x2 x3 x4 hf
    rw [fX3_plus_42] at hf
    refine g_iload (j := 4) dX3_plus_42 rfl ?_
    refine g_iload_n (j := 2) dX3_plus_44 rfl rfl ?_
    refine g_icmp_ge (tgt := 98) dX3_plus_45 (by decide) (fun c1 => ?_) (fun c1 => ?_)
    · rw [if_pos c1] at hf
      refine g_aload_n (j := 0) dX3_plus_98 rfl rfl ?_
      obtain ⟨v2, ev2, hf⟩ := ob hf
      refine g_getF dX3_plus_99 ev2 t_56 hin7 hc7 (by decide) rfl ?_
      refine g_iload_n (j := 2) dX3_plus_102 rfl rfl ?_
      refine g_iload_n (j := 3) dX3_plus_103 rfl rfl ?_
      obtain ⟨σ3, eσ3, hf⟩ := ob hf
      refine g_iast dX3_plus_104 eσ3 ?_
      refine g_aload_n (j := 0) dX3_plus_105 rfl rfl ?_
      refine g_iload_n (j := 2) dX3_plus_106 rfl rfl ?_
      refine g_iconst (v := 1) dX3_plus_107 (by decide) ?_
      refine g_iadd dX3_plus_108 ?_
      obtain ⟨σ4, eσ4, hf⟩ := ob hf
      refine g_putI dX3_plus_109 eσ4 (Or.inl t_58) hin7 hc7 (by decide) hty7 hnm7 (Or.inl rfl) rfl rfl rfl ?_
      refine g_aload_n (j := 0) dX3_plus_112 rfl rfl ?_
      obtain ⟨_, h7, hf⟩ := ob hf
      obtain ⟨σ5, v6, eσ5, hf⟩ := cb_el hf
      refine g_callV_v dX3_plus_113 (wX3_trim _ eσ5) (okX3_trim _ (by decide) (by decide)) (ckK_el h7) hc7 t_917 t_919 s_X3_trim rfl (Nat.le_trans (cat_le _) (Nat.le_of_ble_eq_true rfl)) rfl ?_
      exact g_vret dX3_plus_116 rfl hX2 hX1 hf
    · rw [if_neg c1] at hf
      refine g_aload_n (j := 0) dX3_plus_48 rfl rfl ?_
      refine g_iload (j := 4) dX3_plus_49 rfl ?_
      obtain ⟨_, h10, hf⟩ := ob hf
      obtain ⟨σ8, v9, eσ8, hf⟩ := cb_el hf
      refine g_callV_i dX3_plus_51 (wX3_limb _ eσ8) (okX3_limb _ (by decide) (by decide)) (ckK_el h10) hc7 t_846 t_848 s_X3_limb rfl (Nat.le_trans (cat_le _) (Nat.le_of_ble_eq_true rfl)) rfl ?_
      refine g_aload_n (j := 1) dX3_plus_54 rfl rfl ?_
      refine g_iload (j := 4) dX3_plus_55 rfl ?_
      obtain ⟨_, h13, hf⟩ := ob hf
      obtain ⟨σ11, v12, eσ11, hf⟩ := cb_el hf
      refine g_callV_i dX3_plus_57 (wX3_limb _ eσ11) (okX3_limb _ (by decide) (by decide)) (ckK_el h13) hc7 t_846 t_848 s_X3_limb rfl (Nat.le_trans (cat_le _) (Nat.le_of_ble_eq_true rfl)) rfl ?_
      refine g_iadd dX3_plus_60 ?_
      refine g_iload_n (j := 3) dX3_plus_61 rfl rfl ?_
      refine g_iadd dX3_plus_62 ?_
      obtain ⟨v14, ev14, hf⟩ := nm_el hf
      refine g_topI ev14 ?_
      refine g_istore (i := 5) (L' := [(5, .int v14), (0, rv x0), (1, rv x1), (2, .int x2), (3, .int x3), (4, .int x4)]) dX3_plus_63 (Nat.le_of_ble_eq_true rfl) rfl ?_
      refine g_iload (j := 0) dX3_plus_65 rfl ?_
      refine g_ldc (v := 1000000000) dX3_plus_67 t_916 ?_
      refine g_icmp_lt (tgt := 76) dX3_plus_69 (by decide) (fun c15 => ?_) (fun c15 => ?_)
      · rw [if_pos c15] at hf
        refine g_iconst (v := 0) dX3_plus_76 (by decide) ?_
        refine g_sub (L' := [(0, rv x0), (1, rv x1), (2, .int x2), (4, .int x4), (5, .int v14)]) [1, 2, 3, 5, 0] rfl ?_
        exact bX3_plus_77 hX1 hX2 (fun σ x0 x1 x2 x3 x4 hf => ih σ x0 x1 x2 x3 x4 hf) hf
      · rw [if_neg c15] at hf
        refine g_iconst (v := 1) dX3_plus_72 (by decide) ?_
        refine g_goto (tgt := 77) dX3_plus_73 (by decide) ?_
        refine g_sub (L' := [(0, rv x0), (1, rv x1), (2, .int x2), (4, .int x4), (5, .int v14)]) [1, 2, 3, 5, 0] rfl ?_
        exact bX3_plus_77 hX1 hX2 (fun σ x0 x1 x2 x3 x4 hf => ih σ x0 x1 x2 x3 x4 hf) hf

set_option maxRecDepth 100000 in
set_option maxHeartbeats 4000000 in
theorem bX3_plus_37 {X : Xt} {σf : St} {r : Unit} (hX1 : X.2.2.1 = σf) (hX2 : X.2.2.2 = .inl (none)) {σ : St} {x0 : Nat} {x1 : Nat} {x2 : Int32} (hf : fX3_plus_37 σ x0 x1 x2 = some (σf, r)) : G MtX3_plus X σ 37 [(0, rv x0), (1, rv x1), (2, .int x2)] [] := by
  unfold fX3_plus_37 at hf
  refine g_iconst (v := 0) dX3_plus_37 (by decide) ?_
  refine g_istore_n (i := 3) (L' := [(3, .int 0), (0, rv x0), (1, rv x1), (2, .int x2)]) dX3_plus_38 rfl (Nat.le_of_ble_eq_true rfl) rfl ?_
  refine g_iconst (v := 0) dX3_plus_39 (by decide) ?_
  refine g_istore (i := 4) (L' := [(4, .int 0), (3, .int 0), (0, rv x0), (1, rv x1), (2, .int x2)]) dX3_plus_40 (Nat.le_of_ble_eq_true rfl) rfl ?_
  refine g_sub (L' := [(0, rv x0), (1, rv x1), (2, .int x2), (3, .int 0), (4, .int 0)]) [2, 3, 4, 1, 0] rfl ?_
  exact bX3_plus_42 hX1 hX2 FU _ _ _ _ _ _ hf

set_option maxRecDepth 100000 in
set_option maxHeartbeats 4000000 in
theorem wX3_plus (l : Launch) {σ σf : St} {x0 : Nat} {x1 : Nat} {r : Unit} (hf : fX3_plus σ x0 x1 = some (σf, r)) : Con MtX3_plus yX3_plus l σ [rv x0, rv x1] σf (none) := by
  refine Con.of (by decide +kernel) rfl (fun h => absurd (show false = true from h) (by decide)) (by simp only [sl_n, sl_r, sl_i, sl_l]; exact Nat.le_of_ble_eq_true rfl) ?_
  rw [show lv_args 0 [rv x0, rv x1] = [(0, rv x0), (1, rv x1)] by simp only [la_n, la_r, la_i, la_l] <;> rfl]
  have hX1 : ((l, σ, σf, .inl (none)) : Xt).2.2.1 = σf := rfl
  have hX2 : ((l, σ, σf, .inl (none)) : Xt).2.2.2 = .inl (none) := rfl
  unfold fX3_plus at hf
  refine g_aload_n (j := 0) dX3_plus_0 rfl rfl ?_
  obtain ⟨v1, ev1, hf⟩ := ob hf
  refine g_getI dX3_plus_1 ev1 t_58 hin7 hc7 (by decide) rfl ?_
  refine g_aload_n (j := 1) dX3_plus_4 rfl rfl ?_
  obtain ⟨v2, ev2, hf⟩ := ob hf
  refine g_getI dX3_plus_5 ev2 t_58 hin7 hc7 (by decide) rfl ?_
  refine g_mmax dX3_plus_8 t_1069 t_357 t_15 t_358 (by decide) (by decide) (Nat.le_of_ble_eq_true rfl) ?_
  obtain ⟨v3, ev3, hf⟩ := nm_el hf
  refine g_topI ev3 ?_
  refine g_istore_n (i := 2) (L' := [(2, .int v3), (0, rv x0), (1, rv x1)]) dX3_plus_11 rfl (Nat.le_of_ble_eq_true rfl) (by simp [rv_cat]) ?_
  refine g_aload_n (j := 1) dX3_plus_12 rfl rfl ?_
  obtain ⟨v4, ev4, hf⟩ := ob hf
  refine g_getF dX3_plus_13 ev4 t_56 hin7 hc7 (by decide) rfl ?_
  obtain ⟨v5, ev5, hf⟩ := ob hf
  refine g_alen dX3_plus_16 ev5 ?_
  refine g_iload_n (j := 0) dX3_plus_17 rfl rfl ?_
  refine g_icmp_gt (tgt := 37) dX3_plus_18 (by decide) (fun c6 => ?_) (fun c6 => ?_)
  · rw [if_pos c6] at hf
    refine g_sub (L' := [(0, rv x0), (1, rv x1), (2, .int v3)]) [1, 2, 0] rfl ?_
    exact bX3_plus_37 hX1 hX2 hf
  · rw [if_neg c6] at hf
    refine g_aload_n (j := 1) dX3_plus_21 rfl rfl ?_
    refine g_aload_n (j := 1) dX3_plus_22 rfl rfl ?_
    obtain ⟨v7, ev7, hf⟩ := ob hf
    refine g_getF dX3_plus_23 ev7 t_56 hin7 hc7 (by decide) rfl ?_
    refine g_iload_n (j := 0) dX3_plus_26 rfl rfl ?_
    refine g_iconst (v := 2) dX3_plus_27 (by decide) ?_
    refine g_imul dX3_plus_28 ?_
    refine g_iconst (v := 1) dX3_plus_29 (by decide) ?_
    refine g_iadd dX3_plus_30 ?_
    obtain ⟨σ8, a9, eσ8, hf⟩ := cb_el hf
    refine g_callS_q dX3_plus_31 (wJ7_copyOf_59c91 _ eσ8) (okJ7_copyOf_59c91 _ (by decide) (by decide)) t_900 t_901 rfl (Nat.le_trans (cat_le _) (Nat.le_of_ble_eq_true rfl)) rfl ?_
    obtain ⟨σ10, eσ10, hf⟩ := ob hf
    refine g_putF dX3_plus_34 eσ10 (Or.inl t_56) hin7 hc7 (by decide) hty7 hnm7 (Or.inl rfl) rfl ?_
    refine g_sub (L' := [(0, rv x0), (1, rv x1), (2, .int v3)]) [1, 2, 0] rfl ?_
    exact bX3_plus_37 hX1 hX2 hf

theorem okX3_plus (M : Mt) (h1 : 2 + 1 ≤ M.2.2.2.2.1) (h2 : 8 + (6 + 11) + 142 ≤ M.2.2.2.2.2.1) : CallOk M MtX3_plus yX3_plus 1 := ⟨t_1068, h1, h2, ⟨by decide, by decide⟩, by decide +kernel, t_3⟩
abbrev MtX3_minus : Mt := (cX3_minus, 5, "ExactlySaid$Nat", none, 2, 105, false)
set_option maxRecDepth 100000 in
set_option maxHeartbeats 4000000 in
theorem bX3_minus_38 {X : Xt} {σf : St} {r : Unit} (hX1 : X.2.2.1 = σf) (hX2 : X.2.2.2 = .inl (none)) {k4 : St → Nat → Nat → Int32 → Int32 → Option (St × Unit)} (hk4 : ∀ (σ : St) (x0 : Nat) (x1 : Nat) (x2 : Int32) (x3 : Int32), k4 σ x0 x1 x2 x3 = some (σf, r) → G MtX3_minus X σ 4 [(0, rv x0), (1, rv x1), (2, .int x2), (3, .int x3)] []) {σ : St} {x0 : Nat} {x1 : Nat} {x3 : Int32} {x4 : Int32} {y0 : Int32} (hf : fX3_minus_38 k4 σ x0 x1 x3 x4 y0 = some (σf, r)) : G MtX3_minus X σ 38 [(0, rv x0), (1, rv x1), (3, .int x3), (4, .int x4)] [.int y0] := by
  unfold fX3_minus_38 at hf
  refine g_istore_n (i := 2) (L' := [(2, .int y0), (0, rv x0), (1, rv x1), (3, .int x3), (4, .int x4)]) dX3_minus_38 rfl (Nat.le_of_ble_eq_true rfl) (by simp [rv_cat]) ?_
  refine g_aload_n (j := 1) dX3_minus_39 rfl rfl ?_
  obtain ⟨v1, ev1, hf⟩ := ob hf
  refine g_getF dX3_minus_40 ev1 t_56 hin7 hc7 (by decide) rfl ?_
  refine g_iload_n (j := 3) dX3_minus_43 rfl rfl ?_
  refine g_iload (j := 4) dX3_minus_44 rfl ?_
  refine g_iload_n (j := 0) dX3_minus_46 rfl rfl ?_
  refine g_ldc (v := 1000000000) dX3_minus_47 t_916 ?_
  refine g_imul dX3_minus_49 ?_
  refine g_iadd dX3_minus_50 ?_
  obtain ⟨σ2, eσ2, hf⟩ := ob hf
  refine g_iast dX3_minus_51 eσ2 ?_
  obtain ⟨v3, ev3, hf⟩ := nm_el hf
  refine g_iinc (L' := [(3, .int v3), (2, .int y0), (0, rv x0), (1, rv x1), (4, .int x4)]) (j := 3) (v := v3) dX3_minus_52 rfl (by rw [ev3]; rfl) (Nat.le_of_ble_eq_true rfl) rfl ?_
  refine g_goto (tgt := 4) dX3_minus_55 (by decide) ?_
  refine g_sub (L' := [(0, rv x0), (1, rv x1), (2, .int y0), (3, .int v3)]) [2, 3, 1, 0] rfl ?_
  exact hk4 _ _ _ _ _ hf

set_option maxRecDepth 100000 in
set_option maxHeartbeats 4000000 in
theorem bX3_minus_4 {X : Xt} {σf : St} {r : Unit} (hX1 : X.2.2.1 = σf) (hX2 : X.2.2.2 = .inl (none)) : ∀ (n : Nat) (σ : St) (x0 : Nat) (x1 : Nat) (x2 : Int32) (x3 : Int32), fX3_minus_4 n σ x0 x1 x2 x3 = some (σf, r) → G MtX3_minus X σ 4 [(0, rv x0), (1, rv x1), (2, .int x2), (3, .int x3)] [] := by
  intro n
  induction n with
  | zero => intro σ x0 x1 x2 x3 hf; cases hf
  | succ n ih =>
    intro σ x0 x1 x2 x3 hf
    rw [fX3_minus_4] at hf
    refine g_iload_n (j := 3) dX3_minus_4 rfl rfl ?_
    refine g_aload_n (j := 0) dX3_minus_5 rfl rfl ?_
    obtain ⟨v1, ev1, hf⟩ := ob hf
    refine g_getI dX3_minus_6 ev1 t_58 hin7 hc7 (by decide) rfl ?_
    refine g_icmp_ge (tgt := 58) dX3_minus_9 (by decide) (fun c2 => ?_) (fun c2 => ?_)
    · rw [if_pos c2] at hf
      refine g_aload_n (j := 0) dX3_minus_58 rfl rfl ?_
      obtain ⟨_, h5, hf⟩ := ob hf
      obtain ⟨σ3, v4, eσ3, hf⟩ := cb_el hf
      refine g_callV_v dX3_minus_59 (wX3_trim _ eσ3) (okX3_trim _ (by decide) (by decide)) (ckK_el h5) hc7 t_917 t_919 s_X3_trim rfl (Nat.le_trans (cat_le _) (Nat.le_of_ble_eq_true rfl)) rfl ?_
      exact g_vret dX3_minus_62 rfl hX2 hX1 hf
    · rw [if_neg c2] at hf
      refine g_aload_n (j := 0) dX3_minus_12 rfl rfl ?_
      obtain ⟨v6, ev6, hf⟩ := ob hf
      refine g_getF dX3_minus_13 ev6 t_56 hin7 hc7 (by decide) rfl ?_
      refine g_iload_n (j := 3) dX3_minus_16 rfl rfl ?_
      obtain ⟨v7, ev7, hf⟩ := ob hf
      refine g_iald dX3_minus_17 ev7 ?_
      refine g_aload_n (j := 1) dX3_minus_18 rfl rfl ?_
      refine g_iload_n (j := 3) dX3_minus_19 rfl rfl ?_
      obtain ⟨_, h10, hf⟩ := ob hf
      obtain ⟨σ8, v9, eσ8, hf⟩ := cb_el hf
      refine g_callV_i dX3_minus_20 (wX3_limb _ eσ8) (okX3_limb _ (by decide) (by decide)) (ckK_el h10) hc7 t_846 t_848 s_X3_limb rfl (Nat.le_trans (cat_le _) (Nat.le_of_ble_eq_true rfl)) rfl ?_
      refine g_isub dX3_minus_23 ?_
      refine g_iload_n (j := 2) dX3_minus_24 rfl rfl ?_
      refine g_isub dX3_minus_25 ?_
      obtain ⟨v11, ev11, hf⟩ := nm_el hf
      refine g_topI ev11 ?_
      refine g_istore (i := 4) (L' := [(4, .int v11), (0, rv x0), (1, rv x1), (2, .int x2), (3, .int x3)]) dX3_minus_26 (Nat.le_of_ble_eq_true rfl) rfl ?_
      refine g_iload (j := 0) dX3_minus_28 rfl ?_
      refine g_if_ge (tgt := 37) dX3_minus_30 (by decide) (fun c12 => ?_) (fun c12 => ?_)
      · rw [if_pos c12] at hf
        refine g_iconst (v := 0) dX3_minus_37 (by decide) ?_
        refine g_sub (L' := [(0, rv x0), (1, rv x1), (3, .int x3), (4, .int v11)]) [1, 2, 4, 0] rfl ?_
        exact bX3_minus_38 hX1 hX2 (fun σ x0 x1 x2 x3 hf => ih σ x0 x1 x2 x3 hf) hf
      · rw [if_neg c12] at hf
        refine g_iconst (v := 1) dX3_minus_33 (by decide) ?_
        refine g_goto (tgt := 38) dX3_minus_34 (by decide) ?_
        refine g_sub (L' := [(0, rv x0), (1, rv x1), (3, .int x3), (4, .int v11)]) [1, 2, 4, 0] rfl ?_
        exact bX3_minus_38 hX1 hX2 (fun σ x0 x1 x2 x3 hf => ih σ x0 x1 x2 x3 hf) hf

set_option maxRecDepth 100000 in
set_option maxHeartbeats 4000000 in
theorem wX3_minus (l : Launch) {σ σf : St} {x0 : Nat} {x1 : Nat} {r : Unit} (hf : fX3_minus σ x0 x1 = some (σf, r)) : Con MtX3_minus yX3_minus l σ [rv x0, rv x1] σf (none) := by
  refine Con.of (by decide +kernel) rfl (fun h => absurd (show false = true from h) (by decide)) (by simp only [sl_n, sl_r, sl_i, sl_l]; exact Nat.le_of_ble_eq_true rfl) ?_
  rw [show lv_args 0 [rv x0, rv x1] = [(0, rv x0), (1, rv x1)] by simp only [la_n, la_r, la_i, la_l] <;> rfl]
  have hX1 : ((l, σ, σf, .inl (none)) : Xt).2.2.1 = σf := rfl
  have hX2 : ((l, σ, σf, .inl (none)) : Xt).2.2.2 = .inl (none) := rfl
  unfold fX3_minus at hf
  refine g_iconst (v := 0) dX3_minus_0 (by decide) ?_
  refine g_istore_n (i := 2) (L' := [(2, .int 0), (0, rv x0), (1, rv x1)]) dX3_minus_1 rfl (Nat.le_of_ble_eq_true rfl) (by simp [rv_cat]) ?_
  refine g_iconst (v := 0) dX3_minus_2 (by decide) ?_
  refine g_istore_n (i := 3) (L' := [(3, .int 0), (2, .int 0), (0, rv x0), (1, rv x1)]) dX3_minus_3 rfl (Nat.le_of_ble_eq_true rfl) rfl ?_
  refine g_sub (L' := [(0, rv x0), (1, rv x1), (2, .int 0), (3, .int 0)]) [2, 3, 1, 0] rfl ?_
  exact bX3_minus_4 hX1 hX2 FU _ _ _ _ _ hf

theorem okX3_minus (M : Mt) (h1 : 2 + 1 ≤ M.2.2.2.2.1) (h2 : 8 + (5 + 11) + 105 ≤ M.2.2.2.2.2.1) : CallOk M MtX3_minus yX3_minus 1 := ⟨t_915, h1, h2, ⟨by decide, by decide⟩, by decide +kernel, t_3⟩
abbrev MtX3_fits : Mt := (cX3_fits, 1, "ExactlySaid$Nat", (Option.some Jvm.ClassFile.FieldType.boolean), 1, 84, false)
set_option maxRecDepth 100000 in
set_option maxHeartbeats 4000000 in
theorem bX3_fits_28 {X : Xt} {σf : St} {r : Int32} (hX1 : X.2.2.1 = σf) (hX2 : X.2.2.2 = .inl (some (.int r))) {σ : St} (hf : fX3_fits_28 σ  = some (σf, r)) : G MtX3_fits X σ 28 [] [] := by
  unfold fX3_fits_28 at hf
  refine g_iconst (v := 1) dX3_fits_28 (by decide) ?_
  refine g_goto (tgt := 33) dX3_fits_29 (by decide) ?_
  exact g_iret dX3_fits_33 rfl (by decide) hX2 hX1 hf

set_option maxRecDepth 100000 in
set_option maxHeartbeats 4000000 in
theorem wX3_fits (l : Launch) {σ σf : St} {x0 : Nat} {r : Int32} (hf : fX3_fits σ x0 = some (σf, r)) : Con MtX3_fits yX3_fits l σ [rv x0] σf (some (.int r)) := by
  refine Con.of (by decide +kernel) rfl (fun h => absurd (show false = true from h) (by decide)) (by simp only [sl_n, sl_r, sl_i, sl_l]; exact Nat.le_of_ble_eq_true rfl) ?_
  rw [show lv_args 0 [rv x0] = [(0, rv x0)] by simp only [la_n, la_r, la_i, la_l] <;> rfl]
  have hX1 : ((l, σ, σf, .inl (some (.int r))) : Xt).2.2.1 = σf := rfl
  have hX2 : ((l, σ, σf, .inl (some (.int r))) : Xt).2.2.2 = .inl (some (.int r)) := rfl
  unfold fX3_fits at hf
  refine g_aload_n (j := 0) dX3_fits_0 rfl rfl ?_
  obtain ⟨v1, ev1, hf⟩ := ob hf
  refine g_getI dX3_fits_1 ev1 t_58 hin7 hc7 (by decide) rfl ?_
  refine g_iconst (v := 4) dX3_fits_4 (by decide) ?_
  refine g_icmp_lt (tgt := 28) dX3_fits_5 (by decide) (fun c2 => ?_) (fun c2 => ?_)
  · rw [if_pos c2] at hf
    refine g_sub (L' := []) [] rfl ?_
    exact bX3_fits_28 hX1 hX2 hf
  · rw [if_neg c2] at hf
    refine g_aload_n (j := 0) dX3_fits_8 rfl rfl ?_
    obtain ⟨v3, ev3, hf⟩ := ob hf
    refine g_getI dX3_fits_9 ev3 t_58 hin7 hc7 (by decide) rfl ?_
    refine g_iconst (v := 4) dX3_fits_12 (by decide) ?_
    refine g_icmp_ne (tgt := 32) dX3_fits_13 (by decide) (fun c4 => ?_) (fun c4 => ?_)
    · rw [if_neg c4] at hf
      refine g_iconst (v := 0) dX3_fits_32 (by decide) ?_
      exact g_iret dX3_fits_33 rfl (by decide) hX2 hX1 hf
    · rw [if_pos c4] at hf
      refine g_aload_n (j := 0) dX3_fits_16 rfl rfl ?_
      obtain ⟨v5, ev5, hf⟩ := ob hf
      refine g_getF dX3_fits_17 ev5 t_56 hin7 hc7 (by decide) rfl ?_
      refine g_iconst (v := 3) dX3_fits_20 (by decide) ?_
      obtain ⟨v6, ev6, hf⟩ := ob hf
      refine g_iald dX3_fits_21 ev6 ?_
      refine g_sipush (v := 1000) dX3_fits_22 (by decide) ?_
      refine g_icmp_ge (tgt := 32) dX3_fits_25 (by decide) (fun c7 => ?_) (fun c7 => ?_)
      · rw [if_pos c7] at hf
        refine g_iconst (v := 0) dX3_fits_32 (by decide) ?_
        exact g_iret dX3_fits_33 rfl (by decide) hX2 hX1 hf
      · rw [if_neg c7] at hf
        refine g_sub (L' := []) [] rfl ?_
        exact bX3_fits_28 hX1 hX2 hf

theorem okX3_fits (M : Mt) (h1 : 1 + 1 ≤ M.2.2.2.2.1) (h2 : 8 + (1 + 11) + 84 ≤ M.2.2.2.2.2.1) : CallOk M MtX3_fits yX3_fits 0 := ⟨t_1077, h1, h2, ⟨by decide, by decide⟩, by decide +kernel, t_3⟩
abbrev MtX3_isMultiple : Mt := (cX3_isMultiple, 2, "ExactlySaid$Nat", (Option.some Jvm.ClassFile.FieldType.boolean), 1, 84, false)
set_option maxRecDepth 100000 in
set_option maxHeartbeats 4000000 in
theorem bX3_isMultiple_27 {X : Xt} {σf : St} {r : Int32} (hX1 : X.2.2.1 = σf) (hX2 : X.2.2.2 = .inl (some (.int r))) {σ : St} (hf : fX3_isMultiple_27 σ  = some (σf, r)) : G MtX3_isMultiple X σ 27 [] [] := by
  unfold fX3_isMultiple_27 at hf
  refine g_iconst (v := 1) dX3_isMultiple_27 (by decide) ?_
  refine g_goto (tgt := 32) dX3_isMultiple_28 (by decide) ?_
  exact g_iret dX3_isMultiple_32 rfl (by decide) hX2 hX1 hf

set_option maxRecDepth 100000 in
set_option maxHeartbeats 4000000 in
theorem bX3_isMultiple_23 {X : Xt} {σf : St} {r : Int32} (hX1 : X.2.2.1 = σf) (hX2 : X.2.2.2 = .inl (some (.int r))) {σ : St} {y0 : Int32} {y1 : Int32} (hf : fX3_isMultiple_23 σ y0 y1 = some (σf, r)) : G MtX3_isMultiple X σ 23 [] [.int y1, .int y0] := by
  unfold fX3_isMultiple_23 at hf
  obtain ⟨_, h1, hf⟩ := ob hf
  refine g_irem dX3_isMultiple_23 (ckD_el h1) ?_
  refine g_if_ne (tgt := 31) dX3_isMultiple_24 (by decide) (fun c2 => ?_) (fun c2 => ?_)
  · rw [if_neg c2] at hf
    refine g_iconst (v := 0) dX3_isMultiple_31 (by decide) ?_
    exact g_iret dX3_isMultiple_32 rfl (by decide) hX2 hX1 hf
  · rw [if_pos c2] at hf
    exact bX3_isMultiple_27 hX1 hX2 hf

set_option maxRecDepth 100000 in
set_option maxHeartbeats 4000000 in
theorem wX3_isMultiple (l : Launch) {σ σf : St} {x0 : Nat} {x1 : Int32} {r : Int32} (hf : fX3_isMultiple σ x0 x1 = some (σf, r)) : Con MtX3_isMultiple yX3_isMultiple l σ [rv x0, .int x1] σf (some (.int r)) := by
  refine Con.of (by decide +kernel) rfl (fun h => absurd (show false = true from h) (by decide)) (by simp only [sl_n, sl_r, sl_i, sl_l]; exact Nat.le_of_ble_eq_true rfl) ?_
  rw [show lv_args 0 [rv x0, .int x1] = [(0, rv x0), (1, .int x1)] by simp only [la_n, la_r, la_i, la_l] <;> rfl]
  have hX1 : ((l, σ, σf, .inl (some (.int r))) : Xt).2.2.1 = σf := rfl
  have hX2 : ((l, σ, σf, .inl (some (.int r))) : Xt).2.2.2 = .inl (some (.int r)) := rfl
  unfold fX3_isMultiple at hf
  refine g_aload_n (j := 0) dX3_isMultiple_0 rfl rfl ?_
  obtain ⟨v1, ev1, hf⟩ := ob hf
  refine g_getI dX3_isMultiple_1 ev1 t_58 hin7 hc7 (by decide) rfl ?_
  refine g_if_eq (tgt := 27) dX3_isMultiple_4 (by decide) (fun c2 => ?_) (fun c2 => ?_)
  · rw [if_pos c2] at hf
    refine g_sub (L' := []) [] rfl ?_
    exact bX3_isMultiple_27 hX1 hX2 hf
  · rw [if_neg c2] at hf
    refine g_aload_n (j := 0) dX3_isMultiple_7 rfl rfl ?_
    obtain ⟨v3, ev3, hf⟩ := ob hf
    refine g_getF dX3_isMultiple_8 ev3 t_56 hin7 hc7 (by decide) rfl ?_
    refine g_iconst (v := 0) dX3_isMultiple_11 (by decide) ?_
    obtain ⟨v4, ev4, hf⟩ := ob hf
    refine g_iald dX3_isMultiple_12 ev4 ?_
    refine g_iload_n (j := 1) dX3_isMultiple_13 rfl rfl ?_
    refine g_iconst (v := 2) dX3_isMultiple_14 (by decide) ?_
    refine g_icmp_ne (tgt := 22) dX3_isMultiple_15 (by decide) (fun c5 => ?_) (fun c5 => ?_)
    · rw [if_neg c5] at hf
      refine g_iconst (v := 5) dX3_isMultiple_22 (by decide) ?_
      refine g_sub (L' := []) [] rfl ?_
      exact bX3_isMultiple_23 hX1 hX2 hf
    · rw [if_pos c5] at hf
      refine g_iconst (v := 2) dX3_isMultiple_18 (by decide) ?_
      refine g_goto (tgt := 23) dX3_isMultiple_19 (by decide) ?_
      refine g_sub (L' := []) [] rfl ?_
      exact bX3_isMultiple_23 hX1 hX2 hf

theorem okX3_isMultiple (M : Mt) (h1 : 1 + 1 ≤ M.2.2.2.2.1) (h2 : 8 + (2 + 11) + 84 ≤ M.2.2.2.2.2.1) : CallOk M MtX3_isMultiple yX3_isMultiple 1 := ⟨t_870, h1, h2, ⟨by decide, by decide⟩, by decide +kernel, t_3⟩
abbrev MtX3_digitCount : Mt := (cX3_digitCount, 3, "ExactlySaid$Nat", (Option.some Jvm.ClassFile.FieldType.int), 1, 84, false)
set_option maxRecDepth 100000 in
set_option maxHeartbeats 4000000 in
theorem bX3_digitCount_31 {X : Xt} {σf : St} {r : Int32} (hX1 : X.2.2.1 = σf) (hX2 : X.2.2.2 = .inl (some (.int r))) : ∀ (n : Nat) (σ : St) (x1 : Int32) (x2 : Int32), fX3_digitCount_31 n σ x1 x2 = some (σf, r) → G MtX3_digitCount X σ 31 [(1, .int x1), (2, .int x2)] [] := by
  intro n
  induction n with
  | zero => intro σ x1 x2 hf; cases hf
  | succ n ih =>
    intro σ x1 x2 hf
    rw [fX3_digitCount_31] at hf
    refine g_iload_n (j := 1) dX3_digitCount_31 rfl rfl ?_
    refine g_if_le (tgt := 46) dX3_digitCount_32 (by decide) (fun c1 => ?_) (fun c1 => ?_)
    · rw [if_pos c1] at hf
      refine g_iload_n (j := 0) dX3_digitCount_46 rfl rfl ?_
      exact g_iret dX3_digitCount_47 rfl rfl hX2 hX1 hf
    · rw [if_neg c1] at hf
      obtain ⟨v2, ev2, hf⟩ := nm_el hf
      refine g_iinc (L' := [(1, .int v2), (2, .int x2)]) (j := 0) (v := v2) dX3_digitCount_35 rfl (by rw [ev2]; rfl) (Nat.le_of_ble_eq_true rfl) rfl ?_
      refine g_iload_n (j := 1) dX3_digitCount_38 rfl rfl ?_
      refine g_bipush (v := 10) dX3_digitCount_39 (by decide) ?_
      refine g_idiv dX3_digitCount_41 (by decide) ?_
      obtain ⟨v3, ev3, hf⟩ := nm_el hf
      refine g_topI ev3 ?_
      refine g_istore_n (i := 2) (L' := [(2, .int v3), (1, .int v2)]) dX3_digitCount_42 rfl (Nat.le_of_ble_eq_true rfl) rfl ?_
      refine g_goto (tgt := 31) dX3_digitCount_43 (by decide) ?_
      refine g_sub (L' := [(1, .int v2), (2, .int v3)]) [1, 0] rfl ?_
      exact ih _ _ _ hf

set_option maxRecDepth 100000 in
set_option maxHeartbeats 4000000 in
theorem wX3_digitCount (l : Launch) {σ σf : St} {x0 : Nat} {r : Int32} (hf : fX3_digitCount σ x0 = some (σf, r)) : Con MtX3_digitCount yX3_digitCount l σ [rv x0] σf (some (.int r)) := by
  refine Con.of (by decide +kernel) rfl (fun h => absurd (show false = true from h) (by decide)) (by simp only [sl_n, sl_r, sl_i, sl_l]; exact Nat.le_of_ble_eq_true rfl) ?_
  rw [show lv_args 0 [rv x0] = [(0, rv x0)] by simp only [la_n, la_r, la_i, la_l] <;> rfl]
  have hX1 : ((l, σ, σf, .inl (some (.int r))) : Xt).2.2.1 = σf := rfl
  have hX2 : ((l, σ, σf, .inl (some (.int r))) : Xt).2.2.2 = .inl (some (.int r)) := rfl
  unfold fX3_digitCount at hf
  refine g_aload_n (j := 0) dX3_digitCount_0 rfl rfl ?_
  obtain ⟨v1, ev1, hf⟩ := ob hf
  refine g_getI dX3_digitCount_1 ev1 t_58 hin7 hc7 (by decide) rfl ?_
  refine g_if_ne (tgt := 9) dX3_digitCount_4 (by decide) (fun c2 => ?_) (fun c2 => ?_)
  · rw [if_neg c2] at hf
    refine g_aload_n (j := 0) dX3_digitCount_9 rfl rfl ?_
    obtain ⟨v3, ev3, hf⟩ := ob hf
    refine g_getI dX3_digitCount_10 ev3 t_58 hin7 hc7 (by decide) rfl ?_
    refine g_iconst (v := 1) dX3_digitCount_13 (by decide) ?_
    refine g_isub dX3_digitCount_14 ?_
    refine g_bipush (v := 9) dX3_digitCount_15 (by decide) ?_
    refine g_imul dX3_digitCount_17 ?_
    obtain ⟨v4, ev4, hf⟩ := nm_el hf
    refine g_topI ev4 ?_
    refine g_istore_n (i := 1) (L' := [(1, .int v4), (0, rv x0)]) dX3_digitCount_18 rfl (Nat.le_of_ble_eq_true rfl) (by simp [rv_cat]) ?_
    refine g_aload_n (j := 1) dX3_digitCount_19 rfl rfl ?_
    obtain ⟨v5, ev5, hf⟩ := ob hf
    refine g_getF dX3_digitCount_20 ev5 t_56 hin7 hc7 (by decide) rfl ?_
    refine g_aload_n (j := 1) dX3_digitCount_23 rfl rfl ?_
    obtain ⟨v6, ev6, hf⟩ := ob hf
    refine g_getI dX3_digitCount_24 ev6 t_58 hin7 hc7 (by decide) rfl ?_
    refine g_iconst (v := 1) dX3_digitCount_27 (by decide) ?_
    refine g_isub dX3_digitCount_28 ?_
    obtain ⟨v7, ev7, hf⟩ := ob hf
    refine g_iald dX3_digitCount_29 ev7 ?_
    refine g_istore_n (i := 2) (L' := [(2, .int v7), (1, .int v4), (0, rv x0)]) dX3_digitCount_30 rfl (Nat.le_of_ble_eq_true rfl) rfl ?_
    refine g_sub (L' := [(1, .int v4), (2, .int v7)]) [1, 0] rfl ?_
    exact bX3_digitCount_31 hX1 hX2 FU _ _ _ hf
  · rw [if_pos c2] at hf
    refine g_iconst (v := 1) dX3_digitCount_7 (by decide) ?_
    exact g_iret dX3_digitCount_8 rfl rfl hX2 hX1 hf

theorem okX3_digitCount (M : Mt) (h1 : 1 + 1 ≤ M.2.2.2.2.1) (h2 : 8 + (3 + 11) + 84 ≤ M.2.2.2.2.2.1) : CallOk M MtX3_digitCount yX3_digitCount 0 := ⟨t_464, h1, h2, ⟨by decide, by decide⟩, by decide +kernel, t_3⟩
abbrev MtX3_digitAt : Mt := (cX3_digitAt, 5, "ExactlySaid$Nat", (Option.some Jvm.ClassFile.FieldType.int), 2, 106, false)
set_option maxRecDepth 100000 in
set_option maxHeartbeats 4000000 in
theorem bX3_digitAt_24 {X : Xt} {σf : St} {r : Int32} (hX1 : X.2.2.1 = σf) (hX2 : X.2.2.2 = .inl (some (.int r))) : ∀ (n : Nat) (σ : St) (x3 : Int32) (x4 : Int32), fX3_digitAt_24 n σ x3 x4 = some (σf, r) → G MtX3_digitAt X σ 24 [(3, .int x3), (4, .int x4)] [] := by
  intro n
  induction n with
  | zero => intro σ x3 x4 hf; cases hf
  | succ n ih =>
    intro σ x3 x4 hf
    rw [fX3_digitAt_24] at hf
    refine g_iload (j := 1) dX3_digitAt_24 rfl ?_
    refine g_if_le (tgt := 40) dX3_digitAt_26 (by decide) (fun c1 => ?_) (fun c1 => ?_)
    · rw [if_pos c1] at hf
      refine g_iload_n (j := 0) dX3_digitAt_40 rfl rfl ?_
      refine g_bipush (v := 10) dX3_digitAt_41 (by decide) ?_
      refine g_irem dX3_digitAt_43 (by decide) ?_
      exact g_iret dX3_digitAt_44 rfl rfl hX2 hX1 hf
    · rw [if_neg c1] at hf
      refine g_iload_n (j := 0) dX3_digitAt_29 rfl rfl ?_
      refine g_bipush (v := 10) dX3_digitAt_30 (by decide) ?_
      refine g_idiv dX3_digitAt_32 (by decide) ?_
      obtain ⟨v2, ev2, hf⟩ := nm_el hf
      refine g_topI ev2 ?_
      refine g_istore_n (i := 3) (L' := [(3, .int v2), (4, .int x4)]) dX3_digitAt_33 rfl (Nat.le_of_ble_eq_true rfl) rfl ?_
      obtain ⟨v3, ev3, hf⟩ := nm_el hf
      refine g_iinc (L' := [(4, .int v3), (3, .int v2)]) (j := 1) (v := v3) dX3_digitAt_34 rfl (by rw [ev3]; rfl) (Nat.le_of_ble_eq_true rfl) rfl ?_
      refine g_goto (tgt := 24) dX3_digitAt_37 (by decide) ?_
      refine g_sub (L' := [(3, .int v2), (4, .int v3)]) [1, 0] rfl ?_
      exact ih _ _ _ hf

set_option maxRecDepth 100000 in
set_option maxHeartbeats 4000000 in
theorem wX3_digitAt (l : Launch) {σ σf : St} {x0 : Nat} {x1 : Int32} {r : Int32} (hf : fX3_digitAt σ x0 x1 = some (σf, r)) : Con MtX3_digitAt yX3_digitAt l σ [rv x0, .int x1] σf (some (.int r)) := by
  refine Con.of (by decide +kernel) rfl (fun h => absurd (show false = true from h) (by decide)) (by simp only [sl_n, sl_r, sl_i, sl_l]; exact Nat.le_of_ble_eq_true rfl) ?_
  rw [show lv_args 0 [rv x0, .int x1] = [(0, rv x0), (1, .int x1)] by simp only [la_n, la_r, la_i, la_l] <;> rfl]
  have hX1 : ((l, σ, σf, .inl (some (.int r))) : Xt).2.2.1 = σf := rfl
  have hX2 : ((l, σ, σf, .inl (some (.int r))) : Xt).2.2.2 = .inl (some (.int r)) := rfl
  unfold fX3_digitAt at hf
  refine g_aload_n (j := 0) dX3_digitAt_0 rfl rfl ?_
  obtain ⟨_, h3, hf⟩ := ob hf
  obtain ⟨σ1, v2, eσ1, hf⟩ := cb_el hf
  refine g_callV_i dX3_digitAt_1 (wX3_digitCount _ eσ1) (okX3_digitCount _ (by decide) (by decide)) (ckK_el h3) hc7 t_845 t_463 s_X3_digitCount rfl (Nat.le_trans (cat_le _) (Nat.le_of_ble_eq_true rfl)) rfl ?_
  refine g_iconst (v := 1) dX3_digitAt_4 (by decide) ?_
  refine g_isub dX3_digitAt_5 ?_
  refine g_iload_n (j := 1) dX3_digitAt_6 rfl rfl ?_
  refine g_isub dX3_digitAt_7 ?_
  obtain ⟨v4, ev4, hf⟩ := nm_el hf
  refine g_topI ev4 ?_
  refine g_istore_n (i := 2) (L' := [(2, .int v4), (0, rv x0), (1, .int x1)]) dX3_digitAt_8 rfl (Nat.le_of_ble_eq_true rfl) rfl ?_
  refine g_aload_n (j := 1) dX3_digitAt_9 rfl rfl ?_
  refine g_iload_n (j := 0) dX3_digitAt_10 rfl rfl ?_
  refine g_bipush (v := 9) dX3_digitAt_11 (by decide) ?_
  refine g_idiv dX3_digitAt_13 (by decide) ?_
  obtain ⟨_, h7, hf⟩ := ob hf
  obtain ⟨σ5, v6, eσ5, hf⟩ := cb_el hf
  refine g_callV_i dX3_digitAt_14 (wX3_limb _ eσ5) (okX3_limb _ (by decide) (by decide)) (ckK_el h7) hc7 t_846 t_848 s_X3_limb rfl (Nat.le_trans (cat_le _) (Nat.le_of_ble_eq_true rfl)) rfl ?_
  refine g_istore_n (i := 3) (L' := [(3, .int v6), (2, .int v4), (0, rv x0), (1, .int x1)]) dX3_digitAt_17 rfl (Nat.le_of_ble_eq_true rfl) rfl ?_
  refine g_iload_n (j := 1) dX3_digitAt_18 rfl rfl ?_
  refine g_bipush (v := 9) dX3_digitAt_19 (by decide) ?_
  refine g_irem dX3_digitAt_21 (by decide) ?_
  obtain ⟨v8, ev8, hf⟩ := nm_el hf
  refine g_topI ev8 ?_
  refine g_istore (i := 4) (L' := [(4, .int v8), (3, .int v6), (2, .int v4), (0, rv x0), (1, .int x1)]) dX3_digitAt_22 (Nat.le_of_ble_eq_true rfl) rfl ?_
  refine g_sub (L' := [(3, .int v6), (4, .int v8)]) [1, 0] rfl ?_
  exact bX3_digitAt_24 hX1 hX2 FU _ _ _ hf

theorem okX3_digitAt (M : Mt) (h1 : 2 + 1 ≤ M.2.2.2.2.1) (h2 : 8 + (5 + 11) + 106 ≤ M.2.2.2.2.2.1) : CallOk M MtX3_digitAt yX3_digitAt 1 := ⟨t_844, h1, h2, ⟨by decide, by decide⟩, by decide +kernel, t_3⟩
