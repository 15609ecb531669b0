abbrev MtX12_newValue : Mt := (cX12_newValue, 1, "ExactlySaidModel", (Option.some Jvm.ClassFile.FieldType.int), 1, 84, false)
set_option maxRecDepth 100000 in
set_option maxHeartbeats 4000000 in
theorem wX12_newValue (l : Launch) {σ σf : St} {x0 : Nat} {r : Int32} (hf : fX12_newValue σ x0 = some (σf, r)) : Con MtX12_newValue yX12_newValue l σ [rv x0] σf (some (.int r)) := by
  refine Con.of (by decide +kernel) rfl (fun h => absurd (show false = true from h) (by decide)) (by simp only [sl_n, sl_r, sl_i, sl_l]; exact Nat.le_of_ble_eq_true rfl) ?_
  rw [show lv_args 0 [rv x0] = [(0, rv x0)] by simp only [la_n, la_r, la_i, la_l] <;> rfl]
  have hX1 : ((l, σ, σf, .inl (some (.int r))) : Xt).2.2.1 = σf := rfl
  have hX2 : ((l, σ, σf, .inl (some (.int r))) : Xt).2.2.2 = .inl (some (.int r)) := rfl
  unfold fX12_newValue at hf
  refine g_aload_n (j := 0) dX12_newValue_0 rfl rfl ?_
  refine g_dup dX12_newValue_1 (rv_cat _) ?_
  obtain ⟨v1, ev1, hf⟩ := ob hf
  refine g_getI dX12_newValue_2 ev1 t_1972 hin16 hc16 (by decide) rfl ?_
  refine g_iconst (v := 1) dX12_newValue_5 (by decide) ?_
  refine g_iadd dX12_newValue_6 ?_
  obtain ⟨σ2, eσ2, hf⟩ := ob hf
  refine g_putI dX12_newValue_7 eσ2 (Or.inl t_1972) hin16 hc16 (by decide) hty16 hnm16 (Or.inl rfl) rfl rfl rfl ?_
  refine g_aload_n (j := 0) dX12_newValue_10 rfl rfl ?_
  obtain ⟨v3, ev3, hf⟩ := ob hf
  refine g_getI dX12_newValue_11 ev3 t_1972 hin16 hc16 (by decide) rfl ?_
  refine g_iconst (v := 1) dX12_newValue_14 (by decide) ?_
  refine g_isub dX12_newValue_15 ?_
  exact g_iret dX12_newValue_16 rfl rfl hX2 hX1 hf

theorem okX12_newValue (M : Mt) (h1 : 1 + 1 ≤ M.2.2.2.2.1) (h2 : 8 + (1 + 11) + 84 ≤ M.2.2.2.2.2.1) : CallOk M MtX12_newValue yX12_newValue 0 := ⟨t_1910, h1, h2, ⟨by decide, by decide⟩, by decide +kernel, t_16⟩
abbrev MtX12_puts : Mt := (cX12_puts, 4, "ExactlySaidModel", none, 1, 84, false)
set_option maxRecDepth 100000 in
set_option maxHeartbeats 4000000 in
theorem bX12_puts_9 {X : Xt} {σf : St} {r : Unit} (hX1 : X.2.2.1 = σf) (hX2 : X.2.2.2 = .inl (none)) : ∀ (n : Nat) (σ : St) (x0 : Nat) (x1 : Int32) (x3 : Int32), fX12_puts_9 n σ x0 x1 x3 = some (σf, r) → G MtX12_puts X σ 9 [(0, rv x0), (1, .int x1), (3, .int x3)] [] := by
  intro n
  induction n with
  | zero => intro σ x0 x1 x3 hf; cases hf
  | succ n ih =>
    intro σ x0 x1 x3 hf
    rw [fX12_puts_9] at hf
    refine g_iload_n (j := 2) dX12_puts_9 rfl rfl ?_
    refine g_if_le (tgt := 54) dX12_puts_10 (by decide) (fun c1 => ?_) (fun c1 => ?_)
    · rw [if_pos c1] at hf
      exact g_vret dX12_puts_54 rfl hX2 hX1 hf
    · rw [if_neg c1] at hf
      refine g_aload_n (j := 0) dX12_puts_13 rfl rfl ?_
      obtain ⟨v2, ev2, hf⟩ := ob hf
      refine g_getF dX12_puts_14 ev2 t_1968 hin16 hc16 (by decide) rfl ?_
      refine g_sipush (v := 1000) dX12_puts_17 (by decide) ?_
      refine g_iload_n (j := 1) dX12_puts_20 rfl rfl ?_
      refine g_imul dX12_puts_21 ?_
      refine g_aload_n (j := 0) dX12_puts_22 rfl rfl ?_
      obtain ⟨v3, ev3, hf⟩ := ob hf
      refine g_getF dX12_puts_23 ev3 t_1969 hin16 hc16 (by decide) rfl ?_
      refine g_iload_n (j := 1) dX12_puts_26 rfl rfl ?_
      obtain ⟨v4, ev4, hf⟩ := ob hf
      refine g_iald dX12_puts_27 ev4 ?_
      refine g_iadd dX12_puts_28 ?_
      refine g_iload_n (j := 2) dX12_puts_29 rfl rfl ?_
      refine g_sipush (v := 10000) dX12_puts_30 (by decide) ?_
      refine g_irem dX12_puts_33 (by decide) ?_
      obtain ⟨σ5, eσ5, hf⟩ := ob hf
      refine g_iast dX12_puts_34 eσ5 ?_
      refine g_aload_n (j := 0) dX12_puts_35 rfl rfl ?_
      obtain ⟨v6, ev6, hf⟩ := ob hf
      refine g_getF dX12_puts_36 ev6 t_1969 hin16 hc16 (by decide) rfl ?_
      refine g_iload_n (j := 1) dX12_puts_39 rfl rfl ?_
      refine g_dup2 dX12_puts_40 rfl (rv_cat _) ?_
      obtain ⟨v7, ev7, hf⟩ := ob hf
      refine g_iald dX12_puts_41 ev7 ?_
      refine g_iconst (v := 1) dX12_puts_42 (by decide) ?_
      refine g_iadd dX12_puts_43 ?_
      obtain ⟨σ8, eσ8, hf⟩ := ob hf
      refine g_iast dX12_puts_44 eσ8 ?_
      refine g_iload_n (j := 2) dX12_puts_45 rfl rfl ?_
      refine g_sipush (v := 10000) dX12_puts_46 (by decide) ?_
      refine g_idiv dX12_puts_49 (by decide) ?_
      obtain ⟨v9, ev9, hf⟩ := nm_el hf
      refine g_topI ev9 ?_
      refine g_istore_n (i := 3) (L' := [(3, .int v9), (0, rv x0), (1, .int x1)]) dX12_puts_50 rfl (Nat.le_of_ble_eq_true rfl) rfl ?_
      refine g_goto (tgt := 9) dX12_puts_51 (by decide) ?_
      refine g_sub (L' := [(0, rv x0), (1, .int x1), (3, .int v9)]) [1, 2, 0] rfl ?_
      exact ih _ _ _ _ hf

set_option maxRecDepth 100000 in
set_option maxHeartbeats 4000000 in
theorem wX12_puts (l : Launch) {σ σf : St} {x0 : Nat} {x1 : Int32} {x2 : Int32} {r : Unit} (hf : fX12_puts σ x0 x1 x2 = some (σf, r)) : Con MtX12_puts yX12_puts l σ [rv x0, .int x1, .int x2] σf (none) := by
  refine Con.of (by decide +kernel) rfl (fun h => absurd (show false = true from h) (by decide)) (by simp only [sl_n, sl_r, sl_i, sl_l]; exact Nat.le_of_ble_eq_true rfl) ?_
  rw [show lv_args 0 [rv x0, .int x1, .int x2] = [(0, rv x0), (1, .int x1), (2, .int x2)] by simp only [la_n, la_r, la_i, la_l] <;> rfl]
  have hX1 : ((l, σ, σf, .inl (none)) : Xt).2.2.1 = σf := rfl
  have hX2 : ((l, σ, σf, .inl (none)) : Xt).2.2.2 = .inl (none) := rfl
  unfold fX12_puts at hf
  refine g_aload_n (j := 0) dX12_puts_0 rfl rfl ?_
  obtain ⟨v1, ev1, hf⟩ := ob hf
  refine g_getF dX12_puts_1 ev1 t_1969 hin16 hc16 (by decide) rfl ?_
  refine g_iload_n (j := 1) dX12_puts_4 rfl rfl ?_
  refine g_iconst (v := 0) dX12_puts_5 (by decide) ?_
  obtain ⟨σ2, eσ2, hf⟩ := ob hf
  refine g_iast dX12_puts_6 eσ2 ?_
  refine g_iload_n (j := 2) dX12_puts_7 rfl rfl ?_
  refine g_istore_n (i := 3) (L' := [(3, .int x2), (0, rv x0), (1, .int x1), (2, .int x2)]) dX12_puts_8 rfl (Nat.le_of_ble_eq_true rfl) rfl ?_
  refine g_sub (L' := [(0, rv x0), (1, .int x1), (3, .int x2)]) [1, 2, 0] rfl ?_
  exact bX12_puts_9 hX1 hX2 FU _ _ _ _ hf

theorem okX12_puts (M : Mt) (h1 : 1 + 1 ≤ M.2.2.2.2.1) (h2 : 8 + (4 + 11) + 84 ≤ M.2.2.2.2.2.1) : CallOk M MtX12_puts yX12_puts 2 := ⟨t_1914, h1, h2, ⟨by decide, by decide⟩, by decide +kernel, t_16⟩
abbrev MtX12_copies : Mt := (cX12_copies, 4, "ExactlySaidModel", none, 1, 84, false)
set_option maxRecDepth 100000 in
set_option maxHeartbeats 4000000 in
theorem bX12_copies_14 {X : Xt} {σf : St} {r : Unit} (hX1 : X.2.2.1 = σf) (hX2 : X.2.2.2 = .inl (none)) : ∀ (n : Nat) (σ : St) (x0 : Nat) (x1 : Int32) (x2 : Int32) (x3 : Int32), fX12_copies_14 n σ x0 x1 x2 x3 = some (σf, r) → G MtX12_copies X σ 14 [(0, rv x0), (1, .int x1), (2, .int x2), (3, .int x3)] [] := by
  intro n
  induction n with
  | zero => intro σ x0 x1 x2 x3 hf; cases hf
  | succ n ih =>
    intro σ x0 x1 x2 x3 hf
    rw [fX12_copies_14] at hf
    refine g_iload_n (j := 3) dX12_copies_14 rfl rfl ?_
    refine g_aload_n (j := 0) dX12_copies_15 rfl rfl ?_
    obtain ⟨v1, ev1, hf⟩ := ob hf
    refine g_getF dX12_copies_16 ev1 t_1969 hin16 hc16 (by decide) rfl ?_
    refine g_iload_n (j := 2) dX12_copies_19 rfl rfl ?_
    obtain ⟨v2, ev2, hf⟩ := ob hf
    refine g_iald dX12_copies_20 ev2 ?_
    refine g_icmp_ge (tgt := 54) dX12_copies_21 (by decide) (fun c3 => ?_) (fun c3 => ?_)
    · rw [if_pos c3] at hf
      exact g_vret dX12_copies_54 rfl hX2 hX1 hf
    · rw [if_neg c3] at hf
      refine g_aload_n (j := 0) dX12_copies_24 rfl rfl ?_
      obtain ⟨v4, ev4, hf⟩ := ob hf
      refine g_getF dX12_copies_25 ev4 t_1968 hin16 hc16 (by decide) rfl ?_
      refine g_sipush (v := 1000) dX12_copies_28 (by decide) ?_
      refine g_iload_n (j := 1) dX12_copies_31 rfl rfl ?_
      refine g_imul dX12_copies_32 ?_
      refine g_iload_n (j := 3) dX12_copies_33 rfl rfl ?_
      refine g_iadd dX12_copies_34 ?_
      refine g_aload_n (j := 0) dX12_copies_35 rfl rfl ?_
      obtain ⟨v5, ev5, hf⟩ := ob hf
      refine g_getF dX12_copies_36 ev5 t_1968 hin16 hc16 (by decide) rfl ?_
      refine g_sipush (v := 1000) dX12_copies_39 (by decide) ?_
      refine g_iload_n (j := 2) dX12_copies_42 rfl rfl ?_
      refine g_imul dX12_copies_43 ?_
      refine g_iload_n (j := 3) dX12_copies_44 rfl rfl ?_
      refine g_iadd dX12_copies_45 ?_
      obtain ⟨v6, ev6, hf⟩ := ob hf
      refine g_iald dX12_copies_46 ev6 ?_
      obtain ⟨σ7, eσ7, hf⟩ := ob hf
      refine g_iast dX12_copies_47 eσ7 ?_
      obtain ⟨v8, ev8, hf⟩ := nm_el hf
      refine g_iinc (L' := [(3, .int v8), (0, rv x0), (1, .int x1), (2, .int x2)]) (j := 3) (v := v8) dX12_copies_48 rfl (by rw [ev8]; rfl) (Nat.le_of_ble_eq_true rfl) rfl ?_
      refine g_goto (tgt := 14) dX12_copies_51 (by decide) ?_
      refine g_sub (L' := [(0, rv x0), (1, .int x1), (2, .int x2), (3, .int v8)]) [1, 2, 3, 0] rfl ?_
      exact ih _ _ _ _ _ hf

set_option maxRecDepth 100000 in
set_option maxHeartbeats 4000000 in
theorem wX12_copies (l : Launch) {σ σf : St} {x0 : Nat} {x1 : Int32} {x2 : Int32} {r : Unit} (hf : fX12_copies σ x0 x1 x2 = some (σf, r)) : Con MtX12_copies yX12_copies l σ [rv x0, .int x1, .int x2] σf (none) := by
  refine Con.of (by decide +kernel) rfl (fun h => absurd (show false = true from h) (by decide)) (by simp only [sl_n, sl_r, sl_i, sl_l]; exact Nat.le_of_ble_eq_true rfl) ?_
  rw [show lv_args 0 [rv x0, .int x1, .int x2] = [(0, rv x0), (1, .int x1), (2, .int x2)] by simp only [la_n, la_r, la_i, la_l] <;> rfl]
  have hX1 : ((l, σ, σf, .inl (none)) : Xt).2.2.1 = σf := rfl
  have hX2 : ((l, σ, σf, .inl (none)) : Xt).2.2.2 = .inl (none) := rfl
  unfold fX12_copies at hf
  refine g_aload_n (j := 0) dX12_copies_0 rfl rfl ?_
  obtain ⟨v1, ev1, hf⟩ := ob hf
  refine g_getF dX12_copies_1 ev1 t_1969 hin16 hc16 (by decide) rfl ?_
  refine g_iload_n (j := 1) dX12_copies_4 rfl rfl ?_
  refine g_aload_n (j := 0) dX12_copies_5 rfl rfl ?_
  obtain ⟨v2, ev2, hf⟩ := ob hf
  refine g_getF dX12_copies_6 ev2 t_1969 hin16 hc16 (by decide) rfl ?_
  refine g_iload_n (j := 2) dX12_copies_9 rfl rfl ?_
  obtain ⟨v3, ev3, hf⟩ := ob hf
  refine g_iald dX12_copies_10 ev3 ?_
  obtain ⟨σ4, eσ4, hf⟩ := ob hf
  refine g_iast dX12_copies_11 eσ4 ?_
  refine g_iconst (v := 0) dX12_copies_12 (by decide) ?_
  refine g_istore_n (i := 3) (L' := [(3, .int 0), (0, rv x0), (1, .int x1), (2, .int x2)]) dX12_copies_13 rfl (Nat.le_of_ble_eq_true rfl) rfl ?_
  refine g_sub (L' := [(0, rv x0), (1, .int x1), (2, .int x2), (3, .int 0)]) [1, 2, 3, 0] rfl ?_
  exact bX12_copies_14 hX1 hX2 FU _ _ _ _ _ hf

theorem okX12_copies (M : Mt) (h1 : 1 + 1 ≤ M.2.2.2.2.1) (h2 : 8 + (4 + 11) + 84 ≤ M.2.2.2.2.2.1) : CallOk M MtX12_copies yX12_copies 2 := ⟨t_1930, h1, h2, ⟨by decide, by decide⟩, by decide +kernel, t_16⟩
abbrev MtX12_compares : Mt := (cX12_compares, 4, "ExactlySaidModel", (Option.some Jvm.ClassFile.FieldType.int), 1, 84, false)
set_option maxRecDepth 100000 in
set_option maxHeartbeats 4000000 in
theorem bX12_compares_45 {X : Xt} {σf : St} {r : Int32} (hX1 : X.2.2.1 = σf) (hX2 : X.2.2.2 = .inl (some (.int r))) : ∀ (n : Nat) (σ : St) (x0 : Nat) (x1 : Int32) (x2 : Int32) (x3 : Int32), fX12_compares_45 n σ x0 x1 x2 x3 = some (σf, r) → G MtX12_compares X σ 45 [(0, rv x0), (1, .int x1), (2, .int x2), (3, .int x3)] [] := by
  intro n
  induction n with
  | zero => intro σ x0 x1 x2 x3 hf; cases hf
  | succ n ih =>
    intro σ x0 x1 x2 x3 hf
    rw [fX12_compares_45] at hf
    refine g_iload_n (j := 3) dX12_compares_45 rfl rfl ?_
    refine g_if_lt (tgt := 115) dX12_compares_46 (by decide) (fun c1 => ?_) (fun c1 => ?_)
    · rw [if_pos c1] at hf
      refine g_iconst (v := 0) dX12_compares_115 (by decide) ?_
      exact g_iret dX12_compares_116 rfl rfl hX2 hX1 hf
    · rw [if_neg c1] at hf
      refine g_aload_n (j := 0) dX12_compares_49 rfl rfl ?_
      obtain ⟨v2, ev2, hf⟩ := ob hf
      refine g_getF dX12_compares_50 ev2 t_1968 hin16 hc16 (by decide) rfl ?_
      refine g_sipush (v := 1000) dX12_compares_53 (by decide) ?_
      refine g_iload_n (j := 1) dX12_compares_56 rfl rfl ?_
      refine g_imul dX12_compares_57 ?_
      refine g_iload_n (j := 3) dX12_compares_58 rfl rfl ?_
      refine g_iadd dX12_compares_59 ?_
      obtain ⟨v3, ev3, hf⟩ := ob hf
      refine g_iald dX12_compares_60 ev3 ?_
      refine g_aload_n (j := 0) dX12_compares_61 rfl rfl ?_
      obtain ⟨v4, ev4, hf⟩ := ob hf
      refine g_getF dX12_compares_62 ev4 t_1968 hin16 hc16 (by decide) rfl ?_
      refine g_sipush (v := 1000) dX12_compares_65 (by decide) ?_
      refine g_iload_n (j := 2) dX12_compares_68 rfl rfl ?_
      refine g_imul dX12_compares_69 ?_
      refine g_iload_n (j := 3) dX12_compares_70 rfl rfl ?_
      refine g_iadd dX12_compares_71 ?_
      obtain ⟨v5, ev5, hf⟩ := ob hf
      refine g_iald dX12_compares_72 ev5 ?_
      refine g_icmp_eq (tgt := 109) dX12_compares_73 (by decide) (fun c6 => ?_) (fun c6 => ?_)
      · rw [if_pos c6] at hf
        obtain ⟨v7, ev7, hf⟩ := nm_el hf
        refine g_iinc (L' := [(3, .int v7), (0, rv x0), (1, .int x1), (2, .int x2)]) (j := 3) (v := v7) dX12_compares_109 rfl (by rw [ev7]; rfl) (Nat.le_of_ble_eq_true rfl) rfl ?_
        refine g_goto (tgt := 45) dX12_compares_112 (by decide) ?_
        refine g_sub (L' := [(0, rv x0), (1, .int x1), (2, .int x2), (3, .int v7)]) [1, 2, 3, 0] rfl ?_
        exact ih _ _ _ _ _ hf
      · rw [if_neg c6] at hf
        refine g_aload_n (j := 0) dX12_compares_76 rfl rfl ?_
        obtain ⟨v8, ev8, hf⟩ := ob hf
        refine g_getF dX12_compares_77 ev8 t_1968 hin16 hc16 (by decide) rfl ?_
        refine g_sipush (v := 1000) dX12_compares_80 (by decide) ?_
        refine g_iload_n (j := 1) dX12_compares_83 rfl rfl ?_
        refine g_imul dX12_compares_84 ?_
        refine g_iload_n (j := 3) dX12_compares_85 rfl rfl ?_
        refine g_iadd dX12_compares_86 ?_
        obtain ⟨v9, ev9, hf⟩ := ob hf
        refine g_iald dX12_compares_87 ev9 ?_
        refine g_aload_n (j := 0) dX12_compares_88 rfl rfl ?_
        obtain ⟨v10, ev10, hf⟩ := ob hf
        refine g_getF dX12_compares_89 ev10 t_1968 hin16 hc16 (by decide) rfl ?_
        refine g_sipush (v := 1000) dX12_compares_92 (by decide) ?_
        refine g_iload_n (j := 2) dX12_compares_95 rfl rfl ?_
        refine g_imul dX12_compares_96 ?_
        refine g_iload_n (j := 3) dX12_compares_97 rfl rfl ?_
        refine g_iadd dX12_compares_98 ?_
        obtain ⟨v11, ev11, hf⟩ := ob hf
        refine g_iald dX12_compares_99 ev11 ?_
        refine g_icmp_ge (tgt := 107) dX12_compares_100 (by decide) (fun c12 => ?_) (fun c12 => ?_)
        · rw [if_pos c12] at hf
          refine g_iconst (v := 1) dX12_compares_107 (by decide) ?_
          exact g_iret dX12_compares_108 rfl rfl hX2 hX1 hf
        · rw [if_neg c12] at hf
          refine g_iconst (v := (-1)) dX12_compares_103 (by decide) ?_
          refine g_goto (tgt := 108) dX12_compares_104 (by decide) ?_
          exact g_iret dX12_compares_108 rfl rfl hX2 hX1 hf

set_option maxRecDepth 100000 in
set_option maxHeartbeats 4000000 in
theorem wX12_compares (l : Launch) {σ σf : St} {x0 : Nat} {x1 : Int32} {x2 : Int32} {r : Int32} (hf : fX12_compares σ x0 x1 x2 = some (σf, r)) : Con MtX12_compares yX12_compares l σ [rv x0, .int x1, .int x2] σf (some (.int r)) := by
  refine Con.of (by decide +kernel) rfl (fun h => absurd (show false = true from h) (by decide)) (by simp only [sl_n, sl_r, sl_i, sl_l]; exact Nat.le_of_ble_eq_true rfl) ?_
  rw [show lv_args 0 [rv x0, .int x1, .int x2] = [(0, rv x0), (1, .int x1), (2, .int x2)] by simp only [la_n, la_r, la_i, la_l] <;> rfl]
  have hX1 : ((l, σ, σf, .inl (some (.int r))) : Xt).2.2.1 = σf := rfl
  have hX2 : ((l, σ, σf, .inl (some (.int r))) : Xt).2.2.2 = .inl (some (.int r)) := rfl
  unfold fX12_compares at hf
  refine g_aload_n (j := 0) dX12_compares_0 rfl rfl ?_
  obtain ⟨v1, ev1, hf⟩ := ob hf
  refine g_getF dX12_compares_1 ev1 t_1969 hin16 hc16 (by decide) rfl ?_
  refine g_iload_n (j := 1) dX12_compares_4 rfl rfl ?_
  obtain ⟨v2, ev2, hf⟩ := ob hf
  refine g_iald dX12_compares_5 ev2 ?_
  refine g_aload_n (j := 0) dX12_compares_6 rfl rfl ?_
  obtain ⟨v3, ev3, hf⟩ := ob hf
  refine g_getF dX12_compares_7 ev3 t_1969 hin16 hc16 (by decide) rfl ?_
  refine g_iload_n (j := 2) dX12_compares_10 rfl rfl ?_
  obtain ⟨v4, ev4, hf⟩ := ob hf
  refine g_iald dX12_compares_11 ev4 ?_
  refine g_icmp_eq (tgt := 36) dX12_compares_12 (by decide) (fun c5 => ?_) (fun c5 => ?_)
  · rw [if_pos c5] at hf
    refine g_aload_n (j := 0) dX12_compares_36 rfl rfl ?_
    obtain ⟨v6, ev6, hf⟩ := ob hf
    refine g_getF dX12_compares_37 ev6 t_1969 hin16 hc16 (by decide) rfl ?_
    refine g_iload_n (j := 1) dX12_compares_40 rfl rfl ?_
    obtain ⟨v7, ev7, hf⟩ := ob hf
    refine g_iald dX12_compares_41 ev7 ?_
    refine g_iconst (v := 1) dX12_compares_42 (by decide) ?_
    refine g_isub dX12_compares_43 ?_
    obtain ⟨v8, ev8, hf⟩ := nm_el hf
    refine g_topI ev8 ?_
    refine g_istore_n (i := 3) (L' := [(3, .int v8), (0, rv x0), (1, .int x1), (2, .int x2)]) dX12_compares_44 rfl (Nat.le_of_ble_eq_true rfl) rfl ?_
    refine g_sub (L' := [(0, rv x0), (1, .int x1), (2, .int x2), (3, .int v8)]) [1, 2, 3, 0] rfl ?_
    exact bX12_compares_45 hX1 hX2 FU _ _ _ _ _ hf
  · rw [if_neg c5] at hf
    refine g_aload_n (j := 0) dX12_compares_15 rfl rfl ?_
    obtain ⟨v9, ev9, hf⟩ := ob hf
    refine g_getF dX12_compares_16 ev9 t_1969 hin16 hc16 (by decide) rfl ?_
    refine g_iload_n (j := 1) dX12_compares_19 rfl rfl ?_
    obtain ⟨v10, ev10, hf⟩ := ob hf
    refine g_iald dX12_compares_20 ev10 ?_
    refine g_aload_n (j := 0) dX12_compares_21 rfl rfl ?_
    obtain ⟨v11, ev11, hf⟩ := ob hf
    refine g_getF dX12_compares_22 ev11 t_1969 hin16 hc16 (by decide) rfl ?_
    refine g_iload_n (j := 2) dX12_compares_25 rfl rfl ?_
    obtain ⟨v12, ev12, hf⟩ := ob hf
    refine g_iald dX12_compares_26 ev12 ?_
    refine g_icmp_ge (tgt := 34) dX12_compares_27 (by decide) (fun c13 => ?_) (fun c13 => ?_)
    · rw [if_pos c13] at hf
      refine g_iconst (v := 1) dX12_compares_34 (by decide) ?_
      exact g_iret dX12_compares_35 rfl rfl hX2 hX1 hf
    · rw [if_neg c13] at hf
      refine g_iconst (v := (-1)) dX12_compares_30 (by decide) ?_
      refine g_goto (tgt := 35) dX12_compares_31 (by decide) ?_
      exact g_iret dX12_compares_35 rfl rfl hX2 hX1 hf

theorem okX12_compares (M : Mt) (h1 : 1 + 1 ≤ M.2.2.2.2.1) (h2 : 8 + (4 + 11) + 84 ≤ M.2.2.2.2.2.1) : CallOk M MtX12_compares yX12_compares 2 := ⟨t_1938, h1, h2, ⟨by decide, by decide⟩, by decide +kernel, t_16⟩
abbrev MtX12_trims : Mt := (cX12_trims, 2, "ExactlySaidModel", none, 1, 84, false)
set_option maxRecDepth 100000 in
set_option maxHeartbeats 4000000 in
theorem bX12_trims_0 {X : Xt} {σf : St} {r : Unit} (hX1 : X.2.2.1 = σf) (hX2 : X.2.2.2 = .inl (none)) : ∀ (n : Nat) (σ : St) (x0 : Nat) (x1 : Int32), fX12_trims_0 n σ x0 x1 = some (σf, r) → G MtX12_trims X σ 0 [(0, rv x0), (1, .int x1)] [] := by
  intro n
  induction n with
  | zero => intro σ x0 x1 hf; cases hf
  | succ n ih =>
    intro σ x0 x1 hf
    rw [fX12_trims_0] at hf
    refine g_aload_n (j := 0) dX12_trims_0 rfl rfl ?_
    obtain ⟨v1, ev1, hf⟩ := ob hf
    refine g_getF dX12_trims_1 ev1 t_1969 hin16 hc16 (by decide) rfl ?_
    refine g_iload_n (j := 1) dX12_trims_4 rfl rfl ?_
    obtain ⟨v2, ev2, hf⟩ := ob hf
    refine g_iald dX12_trims_5 ev2 ?_
    refine g_if_le (tgt := 44) dX12_trims_6 (by decide) (fun c3 => ?_) (fun c3 => ?_)
    · rw [if_pos c3] at hf
      exact g_vret dX12_trims_44 rfl hX2 hX1 hf
    · rw [if_neg c3] at hf
      refine g_aload_n (j := 0) dX12_trims_9 rfl rfl ?_
      obtain ⟨v4, ev4, hf⟩ := ob hf
      refine g_getF dX12_trims_10 ev4 t_1968 hin16 hc16 (by decide) rfl ?_
      refine g_sipush (v := 1000) dX12_trims_13 (by decide) ?_
      refine g_iload_n (j := 1) dX12_trims_16 rfl rfl ?_
      refine g_imul dX12_trims_17 ?_
      refine g_aload_n (j := 0) dX12_trims_18 rfl rfl ?_
      obtain ⟨v5, ev5, hf⟩ := ob hf
      refine g_getF dX12_trims_19 ev5 t_1969 hin16 hc16 (by decide) rfl ?_
      refine g_iload_n (j := 1) dX12_trims_22 rfl rfl ?_
      obtain ⟨v6, ev6, hf⟩ := ob hf
      refine g_iald dX12_trims_23 ev6 ?_
      refine g_iadd dX12_trims_24 ?_
      refine g_iconst (v := 1) dX12_trims_25 (by decide) ?_
      refine g_isub dX12_trims_26 ?_
      obtain ⟨v7, ev7, hf⟩ := ob hf
      refine g_iald dX12_trims_27 ev7 ?_
      refine g_if_ne (tgt := 44) dX12_trims_28 (by decide) (fun c8 => ?_) (fun c8 => ?_)
      · rw [if_neg c8] at hf
        exact g_vret dX12_trims_44 rfl hX2 hX1 hf
      · rw [if_pos c8] at hf
        refine g_aload_n (j := 0) dX12_trims_31 rfl rfl ?_
        obtain ⟨v9, ev9, hf⟩ := ob hf
        refine g_getF dX12_trims_32 ev9 t_1969 hin16 hc16 (by decide) rfl ?_
        refine g_iload_n (j := 1) dX12_trims_35 rfl rfl ?_
        refine g_dup2 dX12_trims_36 rfl (rv_cat _) ?_
        obtain ⟨v10, ev10, hf⟩ := ob hf
        refine g_iald dX12_trims_37 ev10 ?_
        refine g_iconst (v := 1) dX12_trims_38 (by decide) ?_
        refine g_isub dX12_trims_39 ?_
        obtain ⟨σ11, eσ11, hf⟩ := ob hf
        refine g_iast dX12_trims_40 eσ11 ?_
        refine g_goto (tgt := 0) dX12_trims_41 (by decide) ?_
        exact ih _ _ _ hf

set_option maxRecDepth 100000 in
set_option maxHeartbeats 4000000 in
theorem wX12_trims (l : Launch) {σ σf : St} {x0 : Nat} {x1 : Int32} {r : Unit} (hf : fX12_trims σ x0 x1 = some (σf, r)) : Con MtX12_trims yX12_trims l σ [rv x0, .int x1] σf (none) := by
  refine Con.of (by decide +kernel) rfl (fun h => absurd (show false = true from h) (by decide)) (by simp only [sl_n, sl_r, sl_i, sl_l]; exact Nat.le_of_ble_eq_true rfl) ?_
  rw [show lv_args 0 [rv x0, .int x1] = [(0, rv x0), (1, .int x1)] by simp only [la_n, la_r, la_i, la_l] <;> rfl]
  exact bX12_trims_0 rfl rfl FU _ _ _ hf

theorem okX12_trims (M : Mt) (h1 : 1 + 1 ≤ M.2.2.2.2.1) (h2 : 8 + (2 + 11) + 84 ≤ M.2.2.2.2.2.1) : CallOk M MtX12_trims yX12_trims 1 := ⟨t_1946, h1, h2, ⟨by decide, by decide⟩, by decide +kernel, t_16⟩
abbrev MtX12_shortens : Mt := (cX12_shortens, 6, "ExactlySaidModel", (Option.some Jvm.ClassFile.FieldType.int), 2, 105, false)
set_option maxRecDepth 100000 in
set_option maxHeartbeats 4000000 in
theorem bX12_shortens_12 {X : Xt} {σf : St} {r : Int32} (hX1 : X.2.2.1 = σf) (hX2 : X.2.2.2 = .inl (some (.int r))) : ∀ (n : Nat) (σ : St) (x0 : Nat) (x1 : Int32) (x2 : Int32) (x3 : Int32) (x4 : Int32), fX12_shortens_12 n σ x0 x1 x2 x3 x4 = some (σf, r) → G MtX12_shortens X σ 12 [(0, rv x0), (1, .int x1), (2, .int x2), (3, .int x3), (4, .int x4)] [] := by
  intro n
  induction n with
  | zero => intro σ x0 x1 x2 x3 x4 hf; cases hf
  | succ n ih =>
    intro σ x0 x1 x2 x3 x4 hf
    rw [fX12_shortens_12] at hf
    refine g_iload (j := 4) dX12_shortens_12 rfl ?_
    refine g_if_lt (tgt := 66) dX12_shortens_14 (by decide) (fun c1 => ?_) (fun c1 => ?_)
    · rw [if_pos c1] at hf
      refine g_aload_n (j := 0) dX12_shortens_66 rfl rfl ?_
      refine g_iload_n (j := 1) dX12_shortens_67 rfl rfl ?_
      obtain ⟨_, h4, hf⟩ := ob hf
      obtain ⟨σ2, v3, eσ2, hf⟩ := cb_el hf
      refine g_callV_v dX12_shortens_68 (wX12_trims _ eσ2) (okX12_trims _ (by decide) (by decide)) (ckK_el h4) hc16 t_1943 t_1945 s_X12_trims rfl (Nat.le_trans (cat_le _) (Nat.le_of_ble_eq_true rfl)) rfl ?_
      refine g_iload_n (j := 3) dX12_shortens_71 rfl rfl ?_
      exact g_iret dX12_shortens_72 rfl rfl hX2 hX1 hf
    · rw [if_neg c1] at hf
      refine g_iload_n (j := 3) dX12_shortens_17 rfl rfl ?_
      refine g_sipush (v := 10000) dX12_shortens_18 (by decide) ?_
      refine g_imul dX12_shortens_21 ?_
      refine g_aload_n (j := 0) dX12_shortens_22 rfl rfl ?_
      obtain ⟨v5, ev5, hf⟩ := ob hf
      refine g_getF dX12_shortens_23 ev5 t_1968 hin16 hc16 (by decide) rfl ?_
      refine g_sipush (v := 1000) dX12_shortens_26 (by decide) ?_
      refine g_iload_n (j := 1) dX12_shortens_29 rfl rfl ?_
      refine g_imul dX12_shortens_30 ?_
      refine g_iload (j := 4) dX12_shortens_31 rfl ?_
      refine g_iadd dX12_shortens_33 ?_
      obtain ⟨v6, ev6, hf⟩ := ob hf
      refine g_iald dX12_shortens_34 ev6 ?_
      refine g_iadd dX12_shortens_35 ?_
      obtain ⟨v7, ev7, hf⟩ := nm_el hf
      refine g_topI ev7 ?_
      refine g_istore (i := 5) (L' := [(5, .int v7), (0, rv x0), (1, .int x1), (2, .int x2), (3, .int x3), (4, .int x4)]) dX12_shortens_36 (Nat.le_of_ble_eq_true rfl) rfl ?_
      refine g_aload_n (j := 1) dX12_shortens_38 rfl rfl ?_
      obtain ⟨v8, ev8, hf⟩ := ob hf
      refine g_getF dX12_shortens_39 ev8 t_1968 hin16 hc16 (by decide) rfl ?_
      refine g_sipush (v := 1000) dX12_shortens_42 (by decide) ?_
      refine g_iload_n (j := 2) dX12_shortens_45 rfl rfl ?_
      refine g_imul dX12_shortens_46 ?_
      refine g_iload (j := 5) dX12_shortens_47 rfl ?_
      refine g_iadd dX12_shortens_49 ?_
      refine g_iload (j := 0) dX12_shortens_50 rfl ?_
      refine g_iload_n (j := 3) dX12_shortens_52 rfl rfl ?_
      obtain ⟨_, h9, hf⟩ := ob hf
      refine g_idiv dX12_shortens_53 (ckD_el h9) ?_
      obtain ⟨σ10, eσ10, hf⟩ := ob hf
      refine g_iast dX12_shortens_54 eσ10 ?_
      refine g_iload (j := 0) dX12_shortens_55 rfl ?_
      refine g_iload_n (j := 3) dX12_shortens_57 rfl rfl ?_
      obtain ⟨_, h11, hf⟩ := ob hf
      refine g_irem dX12_shortens_58 (ckD_el h11) ?_
      obtain ⟨v12, ev12, hf⟩ := nm_el hf
      refine g_topI ev12 ?_
      refine g_istore_n (i := 3) (L' := [(3, .int v12), (5, .int v7), (0, rv x0), (1, .int x1), (2, .int x2), (4, .int x4)]) dX12_shortens_59 rfl (Nat.le_of_ble_eq_true rfl) rfl ?_
      obtain ⟨v13, ev13, hf⟩ := nm_el hf
      refine g_iinc (L' := [(4, .int v13), (3, .int v12), (5, .int v7), (0, rv x0), (1, .int x1), (2, .int x2)]) (j := 5) (v := v13) dX12_shortens_60 rfl (by rw [ev13]; rfl) (Nat.le_of_ble_eq_true rfl) rfl ?_
      refine g_goto (tgt := 12) dX12_shortens_63 (by decide) ?_
      refine g_sub (L' := [(0, rv x0), (1, .int x1), (2, .int x2), (3, .int v12), (4, .int v13)]) [3, 4, 5, 1, 0] rfl ?_
      exact ih _ _ _ _ _ _ hf

set_option maxRecDepth 100000 in
set_option maxHeartbeats 4000000 in
theorem wX12_shortens (l : Launch) {σ σf : St} {x0 : Nat} {x1 : Int32} {x2 : Int32} {r : Int32} (hf : fX12_shortens σ x0 x1 x2 = some (σf, r)) : Con MtX12_shortens yX12_shortens l σ [rv x0, .int x1, .int x2] σf (some (.int r)) := by
  refine Con.of (by decide +kernel) rfl (fun h => absurd (show false = true from h) (by decide)) (by simp only [sl_n, sl_r, sl_i, sl_l]; exact Nat.le_of_ble_eq_true rfl) ?_
  rw [show lv_args 0 [rv x0, .int x1, .int x2] = [(0, rv x0), (1, .int x1), (2, .int x2)] by simp only [la_n, la_r, la_i, la_l] <;> rfl]
  have hX1 : ((l, σ, σf, .inl (some (.int r))) : Xt).2.2.1 = σf := rfl
  have hX2 : ((l, σ, σf, .inl (some (.int r))) : Xt).2.2.2 = .inl (some (.int r)) := rfl
  unfold fX12_shortens at hf
  refine g_iconst (v := 0) dX12_shortens_0 (by decide) ?_
  refine g_istore_n (i := 3) (L' := [(3, .int 0), (0, rv x0), (1, .int x1), (2, .int x2)]) dX12_shortens_1 rfl (Nat.le_of_ble_eq_true rfl) rfl ?_
  refine g_aload_n (j := 1) dX12_shortens_2 rfl rfl ?_
  obtain ⟨v1, ev1, hf⟩ := ob hf
  refine g_getF dX12_shortens_3 ev1 t_1969 hin16 hc16 (by decide) rfl ?_
  refine g_iload_n (j := 2) dX12_shortens_6 rfl rfl ?_
  obtain ⟨v2, ev2, hf⟩ := ob hf
  refine g_iald dX12_shortens_7 ev2 ?_
  refine g_iconst (v := 1) dX12_shortens_8 (by decide) ?_
  refine g_isub dX12_shortens_9 ?_
  obtain ⟨v3, ev3, hf⟩ := nm_el hf
  refine g_topI ev3 ?_
  refine g_istore (i := 4) (L' := [(4, .int v3), (3, .int 0), (0, rv x0), (1, .int x1), (2, .int x2)]) dX12_shortens_10 (Nat.le_of_ble_eq_true rfl) rfl ?_
  refine g_sub (L' := [(0, rv x0), (1, .int x1), (2, .int x2), (3, .int 0), (4, .int v3)]) [2, 3, 4, 1, 0] rfl ?_
  exact bX12_shortens_12 hX1 hX2 FU _ _ _ _ _ _ hf

theorem okX12_shortens (M : Mt) (h1 : 2 + 1 ≤ M.2.2.2.2.1) (h2 : 8 + (6 + 11) + 105 ≤ M.2.2.2.2.2.1) : CallOk M MtX12_shortens yX12_shortens 2 := ⟨t_1942, h1, h2, ⟨by decide, by decide⟩, by decide +kernel, t_16⟩
abbrev MtX12_times : Mt := (cX12_times, 6, "ExactlySaidModel", none, 2, 105, false)
set_option maxRecDepth 100000 in
set_option maxHeartbeats 4000000 in
theorem bX12_times_99 {X : Xt} {σf : St} {r : Unit} (hX1 : X.2.2.1 = σf) (hX2 : X.2.2.2 = .inl (none)) {σ : St} {x0 : Nat} {x1 : Int32} (hf : fX12_times_99 σ x0 x1 = some (σf, r)) : G MtX12_times X σ 99 [(0, rv x0), (1, .int x1)] [] := by
  unfold fX12_times_99 at hf
  refine g_aload_n (j := 0) dX12_times_99 rfl rfl ?_
  refine g_iload_n (j := 1) dX12_times_100 rfl rfl ?_
  obtain ⟨_, h3, hf⟩ := ob hf
  obtain ⟨σ1, v2, eσ1, hf⟩ := cb_el hf
  refine g_callV_v dX12_times_101 (wX12_trims _ eσ1) (okX12_trims _ (by decide) (by decide)) (ckK_el h3) hc16 t_1943 t_1945 s_X12_trims rfl (Nat.le_trans (cat_le _) (Nat.le_of_ble_eq_true rfl)) rfl ?_
  exact g_vret dX12_times_104 rfl hX2 hX1 hf

set_option maxRecDepth 100000 in
set_option maxHeartbeats 4000000 in
theorem bX12_times_5 {X : Xt} {σf : St} {r : Unit} (hX1 : X.2.2.1 = σf) (hX2 : X.2.2.2 = .inl (none)) : ∀ (n : Nat) (σ : St) (x0 : Nat) (x1 : Int32) (x2 : Int32) (x3 : Int32) (x4 : Int32), fX12_times_5 n σ x0 x1 x2 x3 x4 = some (σf, r) → G MtX12_times X σ 5 [(0, rv x0), (1, .int x1), (2, .int x2), (3, .int x3), (4, .int x4)] [] := by
  intro n
  induction n with
  | zero => intro σ x0 x1 x2 x3 x4 hf; cases hf
  | succ n ih =>
    intro σ x0 x1 x2 x3 x4 hf
    rw [fX12_times_5] at hf
    refine g_iload (j := 4) dX12_times_5 rfl ?_
    refine g_aload_n (j := 0) dX12_times_7 rfl rfl ?_
    obtain ⟨v1, ev1, hf⟩ := ob hf
    refine g_getF dX12_times_8 ev1 t_1969 hin16 hc16 (by decide) rfl ?_
    refine g_iload_n (j := 1) dX12_times_11 rfl rfl ?_
    obtain ⟨v2, ev2, hf⟩ := ob hf
    refine g_iald dX12_times_12 ev2 ?_
    refine g_icmp_ge (tgt := 67) dX12_times_13 (by decide) (fun c3 => ?_) (fun c3 => ?_)
    · rw [if_pos c3] at hf
      refine g_iload_n (j := 3) dX12_times_67 rfl rfl ?_
      refine g_if_le (tgt := 99) dX12_times_68 (by decide) (fun c4 => ?_) (fun c4 => ?_)
      · rw [if_pos c4] at hf
        refine g_sub (L' := [(0, rv x0), (1, .int x1)]) [0, 1] rfl ?_
        exact bX12_times_99 hX1 hX2 hf
      · rw [if_neg c4] at hf
        refine g_aload_n (j := 0) dX12_times_71 rfl rfl ?_
        obtain ⟨v5, ev5, hf⟩ := ob hf
        refine g_getF dX12_times_72 ev5 t_1968 hin16 hc16 (by decide) rfl ?_
        refine g_sipush (v := 1000) dX12_times_75 (by decide) ?_
        refine g_iload_n (j := 1) dX12_times_78 rfl rfl ?_
        refine g_imul dX12_times_79 ?_
        refine g_aload_n (j := 0) dX12_times_80 rfl rfl ?_
        obtain ⟨v6, ev6, hf⟩ := ob hf
        refine g_getF dX12_times_81 ev6 t_1969 hin16 hc16 (by decide) rfl ?_
        refine g_iload_n (j := 1) dX12_times_84 rfl rfl ?_
        obtain ⟨v7, ev7, hf⟩ := ob hf
        refine g_iald dX12_times_85 ev7 ?_
        refine g_iadd dX12_times_86 ?_
        refine g_iload_n (j := 3) dX12_times_87 rfl rfl ?_
        obtain ⟨σ8, eσ8, hf⟩ := ob hf
        refine g_iast dX12_times_88 eσ8 ?_
        refine g_aload_n (j := 0) dX12_times_89 rfl rfl ?_
        obtain ⟨v9, ev9, hf⟩ := ob hf
        refine g_getF dX12_times_90 ev9 t_1969 hin16 hc16 (by decide) rfl ?_
        refine g_iload_n (j := 1) dX12_times_93 rfl rfl ?_
        refine g_dup2 dX12_times_94 rfl (rv_cat _) ?_
        obtain ⟨v10, ev10, hf⟩ := ob hf
        refine g_iald dX12_times_95 ev10 ?_
        refine g_iconst (v := 1) dX12_times_96 (by decide) ?_
        refine g_iadd dX12_times_97 ?_
        obtain ⟨σ11, eσ11, hf⟩ := ob hf
        refine g_iast dX12_times_98 eσ11 ?_
        refine g_sub (L' := [(0, rv x0), (1, .int x1)]) [0, 1] rfl ?_
        exact bX12_times_99 hX1 hX2 hf
    · rw [if_neg c3] at hf
      refine g_aload_n (j := 0) dX12_times_16 rfl rfl ?_
      obtain ⟨v12, ev12, hf⟩ := ob hf
      refine g_getF dX12_times_17 ev12 t_1968 hin16 hc16 (by decide) rfl ?_
      refine g_sipush (v := 1000) dX12_times_20 (by decide) ?_
      refine g_iload_n (j := 1) dX12_times_23 rfl rfl ?_
      refine g_imul dX12_times_24 ?_
      refine g_iload (j := 4) dX12_times_25 rfl ?_
      refine g_iadd dX12_times_27 ?_
      obtain ⟨v13, ev13, hf⟩ := ob hf
      refine g_iald dX12_times_28 ev13 ?_
      refine g_iload_n (j := 2) dX12_times_29 rfl rfl ?_
      refine g_imul dX12_times_30 ?_
      refine g_iload_n (j := 3) dX12_times_31 rfl rfl ?_
      refine g_iadd dX12_times_32 ?_
      obtain ⟨v14, ev14, hf⟩ := nm_el hf
      refine g_topI ev14 ?_
      refine g_istore (i := 5) (L' := [(5, .int v14), (0, rv x0), (1, .int x1), (2, .int x2), (3, .int x3), (4, .int x4)]) dX12_times_33 (Nat.le_of_ble_eq_true rfl) rfl ?_
      refine g_aload_n (j := 1) dX12_times_35 rfl rfl ?_
      obtain ⟨v15, ev15, hf⟩ := ob hf
      refine g_getF dX12_times_36 ev15 t_1968 hin16 hc16 (by decide) rfl ?_
      refine g_sipush (v := 1000) dX12_times_39 (by decide) ?_
      refine g_iload_n (j := 2) dX12_times_42 rfl rfl ?_
      refine g_imul dX12_times_43 ?_
      refine g_iload (j := 5) dX12_times_44 rfl ?_
      refine g_iadd dX12_times_46 ?_
      refine g_iload (j := 0) dX12_times_47 rfl ?_
      refine g_sipush (v := 10000) dX12_times_49 (by decide) ?_
      refine g_irem dX12_times_52 (by decide) ?_
      obtain ⟨σ16, eσ16, hf⟩ := ob hf
      refine g_iast dX12_times_53 eσ16 ?_
      refine g_iload (j := 0) dX12_times_54 rfl ?_
      refine g_sipush (v := 10000) dX12_times_56 (by decide) ?_
      refine g_idiv dX12_times_59 (by decide) ?_
      obtain ⟨v17, ev17, hf⟩ := nm_el hf
      refine g_topI ev17 ?_
      refine g_istore_n (i := 3) (L' := [(3, .int v17), (5, .int v14), (0, rv x0), (1, .int x1), (2, .int x2), (4, .int x4)]) dX12_times_60 rfl (Nat.le_of_ble_eq_true rfl) rfl ?_
      obtain ⟨v18, ev18, hf⟩ := nm_el hf
      refine g_iinc (L' := [(4, .int v18), (3, .int v17), (5, .int v14), (0, rv x0), (1, .int x1), (2, .int x2)]) (j := 5) (v := v18) dX12_times_61 rfl (by rw [ev18]; rfl) (Nat.le_of_ble_eq_true rfl) rfl ?_
      refine g_goto (tgt := 5) dX12_times_64 (by decide) ?_
      refine g_sub (L' := [(0, rv x0), (1, .int x1), (2, .int x2), (3, .int v17), (4, .int v18)]) [3, 4, 5, 1, 0] rfl ?_
      exact ih _ _ _ _ _ _ hf

set_option maxRecDepth 100000 in
set_option maxHeartbeats 4000000 in
theorem wX12_times (l : Launch) {σ σf : St} {x0 : Nat} {x1 : Int32} {x2 : Int32} {r : Unit} (hf : fX12_times σ x0 x1 x2 = some (σf, r)) : Con MtX12_times yX12_times l σ [rv x0, .int x1, .int x2] σf (none) := by
  refine Con.of (by decide +kernel) rfl (fun h => absurd (show false = true from h) (by decide)) (by simp only [sl_n, sl_r, sl_i, sl_l]; exact Nat.le_of_ble_eq_true rfl) ?_
  rw [show lv_args 0 [rv x0, .int x1, .int x2] = [(0, rv x0), (1, .int x1), (2, .int x2)] by simp only [la_n, la_r, la_i, la_l] <;> rfl]
  have hX1 : ((l, σ, σf, .inl (none)) : Xt).2.2.1 = σf := rfl
  have hX2 : ((l, σ, σf, .inl (none)) : Xt).2.2.2 = .inl (none) := rfl
  unfold fX12_times at hf
  refine g_iconst (v := 0) dX12_times_0 (by decide) ?_
  refine g_istore_n (i := 3) (L' := [(3, .int 0), (0, rv x0), (1, .int x1), (2, .int x2)]) dX12_times_1 rfl (Nat.le_of_ble_eq_true rfl) rfl ?_
  refine g_iconst (v := 0) dX12_times_2 (by decide) ?_
  refine g_istore (i := 4) (L' := [(4, .int 0), (3, .int 0), (0, rv x0), (1, .int x1), (2, .int x2)]) dX12_times_3 (Nat.le_of_ble_eq_true rfl) rfl ?_
  refine g_sub (L' := [(0, rv x0), (1, .int x1), (2, .int x2), (3, .int 0), (4, .int 0)]) [2, 3, 4, 1, 0] rfl ?_
  exact bX12_times_5 hX1 hX2 FU _ _ _ _ _ _ hf

theorem okX12_times (M : Mt) (h1 : 2 + 1 ≤ M.2.2.2.2.1) (h2 : 8 + (6 + 11) + 105 ≤ M.2.2.2.2.2.1) : CallOk M MtX12_times yX12_times 2 := ⟨t_1950, h1, h2, ⟨by decide, by decide⟩, by decide +kernel, t_16⟩
abbrev MtX12_takes : Mt := (cX12_takes, 9, "ExactlySaidModel", (Option.some Jvm.ClassFile.FieldType.int), 1, 84, false)
set_option maxRecDepth 100000 in
set_option maxHeartbeats 4000000 in
theorem bX12_takes_86 {X : Xt} {σf : St} {r : Int32} (hX1 : X.2.2.1 = σf) (hX2 : X.2.2.2 = .inl (some (.int r))) {k9 : St → Nat → Int32 → Int32 → Int32 → Int32 → Int32 → Int32 → Option (St × Int32)} (hk9 : ∀ (σ : St) (x0 : Nat) (x1 : Int32) (x2 : Int32) (x3 : Int32) (x4 : Int32) (x5 : Int32) (x6 : Int32), k9 σ x0 x1 x2 x3 x4 x5 x6 = some (σf, r) → G MtX12_takes X σ 9 [(0, rv x0), (1, .int x1), (2, .int x2), (3, .int x3), (4, .int x4), (5, .int x5), (6, .int x6)] []) {σ : St} {x0 : Nat} {x1 : Int32} {x2 : Int32} {x3 : Int32} {x5 : Int32} {x6 : Int32} {x8 : Int32} {y0 : Int32} (hf : fX12_takes_86 k9 σ x0 x1 x2 x3 x5 x6 x8 y0 = some (σf, r)) : G MtX12_takes X σ 86 [(0, rv x0), (1, .int x1), (2, .int x2), (3, .int x3), (5, .int x5), (6, .int x6), (8, .int x8)] [.int y0] := by
  unfold fX12_takes_86 at hf
  refine g_istore (i := 4) (L' := [(4, .int y0), (0, rv x0), (1, .int x1), (2, .int x2), (3, .int x3), (5, .int x5), (6, .int x6), (8, .int x8)]) dX12_takes_86 (Nat.le_of_ble_eq_true rfl) rfl ?_
  refine g_aload_n (j := 1) dX12_takes_88 rfl rfl ?_
  obtain ⟨v1, ev1, hf⟩ := ob hf
  refine g_getF dX12_takes_89 ev1 t_1968 hin16 hc16 (by decide) rfl ?_
  refine g_sipush (v := 10000) dX12_takes_92 (by decide) ?_
  refine g_iload_n (j := 2) dX12_takes_95 rfl rfl ?_
  refine g_iadd dX12_takes_96 ?_
  refine g_iload (j := 6) dX12_takes_97 rfl ?_
  refine g_iadd dX12_takes_99 ?_
  refine g_iload (j := 7) dX12_takes_100 rfl ?_
  refine g_iload (j := 0) dX12_takes_102 rfl ?_
  refine g_sipush (v := 10000) dX12_takes_104 (by decide) ?_
  refine g_imul dX12_takes_107 ?_
  refine g_iadd dX12_takes_108 ?_
  obtain ⟨σ2, eσ2, hf⟩ := ob hf
  refine g_iast dX12_takes_109 eσ2 ?_
  obtain ⟨v3, ev3, hf⟩ := nm_el hf
  refine g_iinc (L' := [(6, .int v3), (4, .int y0), (0, rv x0), (1, .int x1), (2, .int x2), (3, .int x3), (5, .int x5), (8, .int x8)]) (j := 6) (v := v3) dX12_takes_110 rfl (by rw [ev3]; rfl) (Nat.le_of_ble_eq_true rfl) rfl ?_
  refine g_goto (tgt := 9) dX12_takes_113 (by decide) ?_
  refine g_sub (L' := [(0, rv x0), (1, .int x1), (2, .int x2), (3, .int x3), (4, .int y0), (5, .int x5), (6, .int v3)]) [2, 3, 4, 5, 1, 6, 0] rfl ?_
  exact hk9 _ _ _ _ _ _ _ _ hf

set_option maxRecDepth 100000 in
set_option maxHeartbeats 4000000 in
theorem bX12_takes_38 {X : Xt} {σf : St} {r : Int32} (hX1 : X.2.2.1 = σf) (hX2 : X.2.2.2 = .inl (some (.int r))) {k9 : St → Nat → Int32 → Int32 → Int32 → Int32 → Int32 → Int32 → Option (St × Int32)} (hk9 : ∀ (σ : St) (x0 : Nat) (x1 : Int32) (x2 : Int32) (x3 : Int32) (x4 : Int32) (x5 : Int32) (x6 : Int32), k9 σ x0 x1 x2 x3 x4 x5 x6 = some (σf, r) → G MtX12_takes X σ 9 [(0, rv x0), (1, .int x1), (2, .int x2), (3, .int x3), (4, .int x4), (5, .int x5), (6, .int x6)] []) {σ : St} {x0 : Nat} {x1 : Int32} {x2 : Int32} {x3 : Int32} {x4 : Int32} {x5 : Int32} {x6 : Int32} {y0 : Int32} (hf : fX12_takes_38 k9 σ x0 x1 x2 x3 x4 x5 x6 y0 = some (σf, r)) : G MtX12_takes X σ 38 [(0, rv x0), (1, .int x1), (2, .int x2), (3, .int x3), (4, .int x4), (5, .int x5), (6, .int x6)] [.int y0] := by
  unfold fX12_takes_38 at hf
  refine g_iload (j := 5) dX12_takes_38 rfl ?_
  refine g_iadd dX12_takes_40 ?_
  obtain ⟨v1, ev1, hf⟩ := nm_el hf
  refine g_topI ev1 ?_
  refine g_istore (i := 7) (L' := [(7, .int v1), (0, rv x0), (1, .int x1), (2, .int x2), (3, .int x3), (4, .int x4), (5, .int x5), (6, .int x6)]) dX12_takes_41 (Nat.le_of_ble_eq_true rfl) rfl ?_
  refine g_iload (j := 0) dX12_takes_43 rfl ?_
  refine g_sipush (v := 10000) dX12_takes_45 (by decide) ?_
  refine g_idiv dX12_takes_48 (by decide) ?_
  obtain ⟨v2, ev2, hf⟩ := nm_el hf
  refine g_topI ev2 ?_
  refine g_istore (i := 5) (L' := [(5, .int v2), (7, .int v1), (0, rv x0), (1, .int x1), (2, .int x2), (3, .int x3), (4, .int x4), (6, .int x6)]) dX12_takes_49 (Nat.le_of_ble_eq_true rfl) rfl ?_
  refine g_aload_n (j := 2) dX12_takes_51 rfl rfl ?_
  obtain ⟨v3, ev3, hf⟩ := ob hf
  refine g_getF dX12_takes_52 ev3 t_1968 hin16 hc16 (by decide) rfl ?_
  refine g_sipush (v := 10000) dX12_takes_55 (by decide) ?_
  refine g_iload_n (j := 3) dX12_takes_58 rfl rfl ?_
  refine g_iadd dX12_takes_59 ?_
  refine g_iload (j := 7) dX12_takes_60 rfl ?_
  refine g_iadd dX12_takes_62 ?_
  obtain ⟨v4, ev4, hf⟩ := ob hf
  refine g_iald dX12_takes_63 ev4 ?_
  refine g_iload (j := 1) dX12_takes_64 rfl ?_
  refine g_sipush (v := 10000) dX12_takes_66 (by decide) ?_
  refine g_irem dX12_takes_69 (by decide) ?_
  refine g_isub dX12_takes_70 ?_
  refine g_iload (j := 6) dX12_takes_71 rfl ?_
  refine g_isub dX12_takes_73 ?_
  obtain ⟨v5, ev5, hf⟩ := nm_el hf
  refine g_topI ev5 ?_
  refine g_istore (i := 8) (L' := [(8, .int v5), (5, .int v2), (7, .int v1), (0, rv x0), (1, .int x1), (2, .int x2), (3, .int x3), (4, .int x4), (6, .int x6)]) dX12_takes_74 (Nat.le_of_ble_eq_true rfl) rfl ?_
  refine g_iload (j := 0) dX12_takes_76 rfl ?_
  refine g_if_ge (tgt := 85) dX12_takes_78 (by decide) (fun c6 => ?_) (fun c6 => ?_)
  · rw [if_pos c6] at hf
    refine g_iconst (v := 0) dX12_takes_85 (by decide) ?_
    refine g_sub (L' := [(0, rv x0), (1, .int x1), (2, .int x2), (3, .int x3), (5, .int v2), (6, .int x6), (8, .int v5)]) [3, 4, 5, 6, 1, 8, 0] rfl ?_
    exact bX12_takes_86 hX1 hX2 hk9 hf
  · rw [if_neg c6] at hf
    refine g_iconst (v := 1) dX12_takes_81 (by decide) ?_
    refine g_goto (tgt := 86) dX12_takes_82 (by decide) ?_
    refine g_sub (L' := [(0, rv x0), (1, .int x1), (2, .int x2), (3, .int x3), (5, .int v2), (6, .int x6), (8, .int v5)]) [3, 4, 5, 6, 1, 8, 0] rfl ?_
    exact bX12_takes_86 hX1 hX2 hk9 hf

set_option maxRecDepth 100000 in
set_option maxHeartbeats 4000000 in
theorem bX12_takes_9 {X : Xt} {σf : St} {r : Int32} (hX1 : X.2.2.1 = σf) (hX2 : X.2.2.2 = .inl (some (.int r))) : ∀ (n : Nat) (σ : St) (x0 : Nat) (x1 : Int32) (x2 : Int32) (x3 : Int32) (x4 : Int32) (x5 : Int32) (x6 : Int32), fX12_takes_9 n σ x0 x1 x2 x3 x4 x5 x6 = some (σf, r) → G MtX12_takes X σ 9 [(0, rv x0), (1, .int x1), (2, .int x2), (3, .int x3), (4, .int x4), (5, .int x5), (6, .int x6)] [] := by
  intro n
  induction n with
  | zero => intro σ x0 x1 x2 x3 x4 x5 x6 hf; cases hf
  | succ n ih =>
    intro σ x0 x1 x2 x3 x4 x5 x6 hf
    rw [fX12_takes_9] at hf
    refine g_iload (j := 6) dX12_takes_9 rfl ?_
    refine g_iload_n (j := 2) dX12_takes_11 rfl rfl ?_
    refine g_icmp_gt (tgt := 116) dX12_takes_12 (by decide) (fun c1 => ?_) (fun c1 => ?_)
    · rw [if_pos c1] at hf
      refine g_iload (j := 4) dX12_takes_116 rfl ?_
      exact g_iret dX12_takes_118 rfl rfl hX2 hX1 hf
    · rw [if_neg c1] at hf
      refine g_iload (j := 6) dX12_takes_15 rfl ?_
      refine g_iload_n (j := 2) dX12_takes_17 rfl rfl ?_
      refine g_icmp_ge (tgt := 37) dX12_takes_18 (by decide) (fun c2 => ?_) (fun c2 => ?_)
      · rw [if_pos c2] at hf
        refine g_iconst (v := 0) dX12_takes_37 (by decide) ?_
        exact bX12_takes_38 hX1 hX2 (fun σ x0 x1 x2 x3 x4 x5 x6 hf => ih σ x0 x1 x2 x3 x4 x5 x6 hf) hf
      · rw [if_neg c2] at hf
        refine g_aload_n (j := 0) dX12_takes_21 rfl rfl ?_
        obtain ⟨v3, ev3, hf⟩ := ob hf
        refine g_getF dX12_takes_22 ev3 t_1968 hin16 hc16 (by decide) rfl ?_
        refine g_sipush (v := 11000) dX12_takes_25 (by decide) ?_
        refine g_iload (j := 6) dX12_takes_28 rfl ?_
        refine g_iadd dX12_takes_30 ?_
        obtain ⟨v4, ev4, hf⟩ := ob hf
        refine g_iald dX12_takes_31 ev4 ?_
        refine g_iload_n (j := 3) dX12_takes_32 rfl rfl ?_
        refine g_imul dX12_takes_33 ?_
        refine g_goto (tgt := 38) dX12_takes_34 (by decide) ?_
        exact bX12_takes_38 hX1 hX2 (fun σ x0 x1 x2 x3 x4 x5 x6 hf => ih σ x0 x1 x2 x3 x4 x5 x6 hf) hf

set_option maxRecDepth 100000 in
set_option maxHeartbeats 4000000 in
theorem wX12_takes (l : Launch) {σ σf : St} {x0 : Nat} {x1 : Int32} {x2 : Int32} {x3 : Int32} {r : Int32} (hf : fX12_takes σ x0 x1 x2 x3 = some (σf, r)) : Con MtX12_takes yX12_takes l σ [rv x0, .int x1, .int x2, .int x3] σf (some (.int r)) := by
  refine Con.of (by decide +kernel) rfl (fun h => absurd (show false = true from h) (by decide)) (by simp only [sl_n, sl_r, sl_i, sl_l]; exact Nat.le_of_ble_eq_true rfl) ?_
  rw [show lv_args 0 [rv x0, .int x1, .int x2, .int x3] = [(0, rv x0), (1, .int x1), (2, .int x2), (3, .int x3)] by simp only [la_n, la_r, la_i, la_l] <;> rfl]
  have hX1 : ((l, σ, σf, .inl (some (.int r))) : Xt).2.2.1 = σf := rfl
  have hX2 : ((l, σ, σf, .inl (some (.int r))) : Xt).2.2.2 = .inl (some (.int r)) := rfl
  unfold fX12_takes at hf
  refine g_iconst (v := 0) dX12_takes_0 (by decide) ?_
  refine g_istore (i := 4) (L' := [(4, .int 0), (0, rv x0), (1, .int x1), (2, .int x2), (3, .int x3)]) dX12_takes_1 (Nat.le_of_ble_eq_true rfl) rfl ?_
  refine g_iconst (v := 0) dX12_takes_3 (by decide) ?_
  refine g_istore (i := 5) (L' := [(5, .int 0), (4, .int 0), (0, rv x0), (1, .int x1), (2, .int x2), (3, .int x3)]) dX12_takes_4 (Nat.le_of_ble_eq_true rfl) rfl ?_
  refine g_iconst (v := 0) dX12_takes_6 (by decide) ?_
  refine g_istore (i := 6) (L' := [(6, .int 0), (5, .int 0), (4, .int 0), (0, rv x0), (1, .int x1), (2, .int x2), (3, .int x3)]) dX12_takes_7 (Nat.le_of_ble_eq_true rfl) rfl ?_
  refine g_sub (L' := [(0, rv x0), (1, .int x1), (2, .int x2), (3, .int x3), (4, .int 0), (5, .int 0), (6, .int 0)]) [3, 4, 5, 6, 2, 1, 0] rfl ?_
  exact bX12_takes_9 hX1 hX2 FU _ _ _ _ _ _ _ _ hf

theorem okX12_takes (M : Mt) (h1 : 1 + 1 ≤ M.2.2.2.2.1) (h2 : 8 + (9 + 11) + 84 ≤ M.2.2.2.2.2.1) : CallOk M MtX12_takes yX12_takes 3 := ⟨t_1958, h1, h2, ⟨by decide, by decide⟩, by decide +kernel, t_16⟩
abbrev MtX12_digitAt : Mt := (cX12_digitAt, 11, "ExactlySaidModel", (Option.some Jvm.ClassFile.FieldType.int), 2, 112, false)
set_option maxRecDepth 100000 in
set_option maxHeartbeats 4000000 in
theorem bX12_digitAt_113 {X : Xt} {σf : St} {r : Int32} (hX1 : X.2.2.1 = σf) (hX2 : X.2.2.2 = .inl (some (.int r))) {k58 : St → Nat → Int32 → Int32 → Int32 → Int32 → Int32 → Option (St × Int32)} (hk58 : ∀ (σ : St) (x0 : Nat) (x1 : Int32) (x2 : Int32) (x3 : Int32) (x5 : Int32) (x6 : Int32), k58 σ x0 x1 x2 x3 x5 x6 = some (σf, r) → G MtX12_digitAt X σ 58 [(0, rv x0), (1, .int x1), (2, .int x2), (3, .int x3), (5, .int x5), (6, .int x6)] []) {σ : St} {x0 : Nat} {x1 : Int32} {x2 : Int32} {x3 : Int32} {x5 : Int32} {x6 : Int32} (hf : fX12_digitAt_113 k58 σ x0 x1 x2 x3 x5 x6 = some (σf, r)) : G MtX12_digitAt X σ 113 [(0, rv x0), (1, .int x1), (2, .int x2), (3, .int x3), (5, .int x5), (6, .int x6)] [] := by
  unfold fX12_digitAt_113 at hf
  obtain ⟨v1, ev1, hf⟩ := nm_el hf
  refine g_iinc (L' := [(5, .int v1), (0, rv x0), (1, .int x1), (2, .int x2), (3, .int x3), (6, .int x6)]) (j := 4) (v := v1) dX12_digitAt_113 rfl (by rw [ev1]; rfl) (Nat.le_of_ble_eq_true rfl) rfl ?_
  refine g_iload (j := 5) dX12_digitAt_116 rfl ?_
  refine g_iload_n (j := 4) dX12_digitAt_118 rfl rfl ?_
  refine g_iadd dX12_digitAt_119 ?_
  obtain ⟨v2, ev2, hf⟩ := nm_el hf
  refine g_topI ev2 ?_
  refine g_istore (i := 6) (L' := [(6, .int v2), (5, .int v1), (0, rv x0), (1, .int x1), (2, .int x2), (3, .int x3)]) dX12_digitAt_120 (Nat.le_of_ble_eq_true rfl) rfl ?_
  refine g_goto (tgt := 58) dX12_digitAt_122 (by decide) ?_
  refine g_sub (L' := [(0, rv x0), (1, .int x1), (2, .int x2), (3, .int x3), (5, .int v1), (6, .int v2)]) [2, 3, 4, 5, 1, 0] rfl ?_
  exact hk58 _ _ _ _ _ _ _ hf

set_option maxRecDepth 100000 in
set_option maxHeartbeats 4000000 in
theorem bX12_digitAt_189 {X : Xt} {σf : St} {r : Int32} (hX1 : X.2.2.1 = σf) (hX2 : X.2.2.2 = .inl (some (.int r))) {k149 : St → Nat → Int32 → Int32 → Int32 → Int32 → Int32 → Option (St × Int32)} (hk149 : ∀ (σ : St) (x0 : Nat) (x1 : Int32) (x2 : Int32) (x5 : Int32) (x8 : Int32) (x9 : Int32), k149 σ x0 x1 x2 x5 x8 x9 = some (σf, r) → G MtX12_digitAt X σ 149 [(0, rv x0), (1, .int x1), (2, .int x2), (5, .int x5), (8, .int x8), (9, .int x9)] []) {σ : St} {x0 : Nat} {x1 : Int32} {x2 : Int32} {x5 : Int32} {x8 : Int32} {x9 : Int32} {y0 : Int32} {y1 : Int32} (hf : fX12_digitAt_189 k149 σ x0 x1 x2 x5 x8 x9 y0 y1 = some (σf, r)) : G MtX12_digitAt X σ 189 [(0, rv x0), (1, .int x1), (2, .int x2), (5, .int x5), (8, .int x8), (9, .int x9)] [.int y1, .int y0] := by
  unfold fX12_digitAt_189 at hf
  refine g_iadd dX12_digitAt_189 ?_
  refine g_iload (j := 4) dX12_digitAt_190 rfl ?_
  refine g_iadd dX12_digitAt_192 ?_
  obtain ⟨v1, ev1, hf⟩ := nm_el hf
  refine g_topI ev1 ?_
  refine g_istore (i := 10) (L' := [(10, .int v1), (0, rv x0), (1, .int x1), (2, .int x2), (5, .int x5), (8, .int x8), (9, .int x9)]) dX12_digitAt_193 (Nat.le_of_ble_eq_true rfl) rfl ?_
  refine g_aload_n (j := 1) dX12_digitAt_195 rfl rfl ?_
  obtain ⟨v2, ev2, hf⟩ := ob hf
  refine g_getF dX12_digitAt_196 ev2 t_1968 hin16 hc16 (by decide) rfl ?_
  refine g_sipush (v := 10000) dX12_digitAt_199 (by decide) ?_
  refine g_iload_n (j := 2) dX12_digitAt_202 rfl rfl ?_
  refine g_iadd dX12_digitAt_203 ?_
  refine g_iload (j := 6) dX12_digitAt_204 rfl ?_
  refine g_iadd dX12_digitAt_206 ?_
  refine g_iload (j := 0) dX12_digitAt_207 rfl ?_
  refine g_sipush (v := 10000) dX12_digitAt_209 (by decide) ?_
  refine g_irem dX12_digitAt_212 (by decide) ?_
  obtain ⟨σ3, eσ3, hf⟩ := ob hf
  refine g_iast dX12_digitAt_213 eσ3 ?_
  refine g_iload (j := 0) dX12_digitAt_214 rfl ?_
  refine g_sipush (v := 10000) dX12_digitAt_216 (by decide) ?_
  refine g_idiv dX12_digitAt_219 (by decide) ?_
  obtain ⟨v4, ev4, hf⟩ := nm_el hf
  refine g_topI ev4 ?_
  refine g_istore (i := 8) (L' := [(8, .int v4), (10, .int v1), (0, rv x0), (1, .int x1), (2, .int x2), (5, .int x5), (9, .int x9)]) dX12_digitAt_220 (Nat.le_of_ble_eq_true rfl) rfl ?_
  obtain ⟨v5, ev5, hf⟩ := nm_el hf
  refine g_iinc (L' := [(9, .int v5), (8, .int v4), (10, .int v1), (0, rv x0), (1, .int x1), (2, .int x2), (5, .int x5)]) (j := 6) (v := v5) dX12_digitAt_222 rfl (by rw [ev5]; rfl) (Nat.le_of_ble_eq_true rfl) rfl ?_
  refine g_goto (tgt := 149) dX12_digitAt_225 (by decide) ?_
  refine g_sub (L' := [(0, rv x0), (1, .int x1), (2, .int x2), (5, .int x5), (8, .int v4), (9, .int v5)]) [3, 4, 5, 6, 1, 0] rfl ?_
  exact hk149 _ _ _ _ _ _ _ hf

set_option maxRecDepth 100000 in
set_option maxHeartbeats 4000000 in
theorem bX12_digitAt_149 {X : Xt} {σf : St} {r : Int32} (hX1 : X.2.2.1 = σf) (hX2 : X.2.2.2 = .inl (some (.int r))) : ∀ (n : Nat) (σ : St) (x0 : Nat) (x1 : Int32) (x2 : Int32) (x5 : Int32) (x8 : Int32) (x9 : Int32), fX12_digitAt_149 n σ x0 x1 x2 x5 x8 x9 = some (σf, r) → G MtX12_digitAt X σ 149 [(0, rv x0), (1, .int x1), (2, .int x2), (5, .int x5), (8, .int x8), (9, .int x9)] [] := by
  intro n
  induction n with
  | zero => intro σ x0 x1 x2 x5 x8 x9 hf; cases hf
  | succ n ih =>
    intro σ x0 x1 x2 x5 x8 x9 hf
    rw [fX12_digitAt_149] at hf
    refine g_iload (j := 5) dX12_digitAt_149 rfl ?_
    refine g_iload_n (j := 2) dX12_digitAt_151 rfl rfl ?_
    refine g_icmp_gt (tgt := 228) dX12_digitAt_152 (by decide) (fun c1 => ?_) (fun c1 => ?_)
    · rw [if_pos c1] at hf
      refine g_iload (j := 3) dX12_digitAt_228 rfl ?_
      refine g_iconst (v := 1) dX12_digitAt_230 (by decide) ?_
      refine g_isub dX12_digitAt_231 ?_
      exact g_iret dX12_digitAt_232 rfl rfl hX2 hX1 hf
    · rw [if_neg c1] at hf
      refine g_aload_n (j := 0) dX12_digitAt_155 rfl rfl ?_
      obtain ⟨v2, ev2, hf⟩ := ob hf
      refine g_getF dX12_digitAt_156 ev2 t_1968 hin16 hc16 (by decide) rfl ?_
      refine g_sipush (v := 10000) dX12_digitAt_159 (by decide) ?_
      refine g_iload_n (j := 1) dX12_digitAt_162 rfl rfl ?_
      refine g_iadd dX12_digitAt_163 ?_
      refine g_iload (j := 5) dX12_digitAt_164 rfl ?_
      refine g_iadd dX12_digitAt_166 ?_
      obtain ⟨v3, ev3, hf⟩ := ob hf
      refine g_iald dX12_digitAt_167 ev3 ?_
      refine g_iload (j := 5) dX12_digitAt_168 rfl ?_
      refine g_iload_n (j := 2) dX12_digitAt_170 rfl rfl ?_
      refine g_icmp_ge (tgt := 188) dX12_digitAt_171 (by decide) (fun c4 => ?_) (fun c4 => ?_)
      · rw [if_pos c4] at hf
        refine g_iconst (v := 0) dX12_digitAt_188 (by decide) ?_
        exact bX12_digitAt_189 hX1 hX2 (fun σ x0 x1 x2 x5 x8 x9 hf => ih σ x0 x1 x2 x5 x8 x9 hf) hf
      · rw [if_neg c4] at hf
        refine g_aload_n (j := 0) dX12_digitAt_174 rfl rfl ?_
        obtain ⟨v5, ev5, hf⟩ := ob hf
        refine g_getF dX12_digitAt_175 ev5 t_1968 hin16 hc16 (by decide) rfl ?_
        refine g_sipush (v := 11000) dX12_digitAt_178 (by decide) ?_
        refine g_iload (j := 5) dX12_digitAt_181 rfl ?_
        refine g_iadd dX12_digitAt_183 ?_
        obtain ⟨v6, ev6, hf⟩ := ob hf
        refine g_iald dX12_digitAt_184 ev6 ?_
        refine g_goto (tgt := 189) dX12_digitAt_185 (by decide) ?_
        exact bX12_digitAt_189 hX1 hX2 (fun σ x0 x1 x2 x5 x8 x9 hf => ih σ x0 x1 x2 x5 x8 x9 hf) hf

set_option maxRecDepth 100000 in
set_option maxHeartbeats 4000000 in
theorem bX12_digitAt_125 {X : Xt} {σf : St} {r : Int32} (hX1 : X.2.2.1 = σf) (hX2 : X.2.2.2 = .inl (some (.int r))) {σ : St} {x0 : Nat} {x1 : Int32} {x2 : Int32} {x5 : Int32} (hf : fX12_digitAt_125 σ x0 x1 x2 x5 = some (σf, r)) : G MtX12_digitAt X σ 125 [(0, rv x0), (1, .int x1), (2, .int x2), (5, .int x5)] [] := by
  unfold fX12_digitAt_125 at hf
  refine g_aload_n (j := 0) dX12_digitAt_125 rfl rfl ?_
  refine g_iload_n (j := 1) dX12_digitAt_126 rfl rfl ?_
  refine g_iload_n (j := 2) dX12_digitAt_127 rfl rfl ?_
  refine g_iload (j := 3) dX12_digitAt_128 rfl ?_
  obtain ⟨_, h3, hf⟩ := ob hf
  obtain ⟨σ1, v2, eσ1, hf⟩ := cb_el hf
  refine g_callV_i dX12_digitAt_130 (wX12_takes _ eσ1) (okX12_takes _ (by decide) (by decide)) (ckK_el h3) hc16 t_1955 t_1957 s_X12_takes rfl (Nat.le_trans (cat_le _) (Nat.le_of_ble_eq_true rfl)) rfl ?_
  refine g_istore (i := 7) (L' := [(7, .int v2), (0, rv x0), (1, .int x1), (2, .int x2), (5, .int x5)]) dX12_digitAt_133 (Nat.le_of_ble_eq_true rfl) rfl ?_
  refine g_iload (j := 0) dX12_digitAt_135 rfl ?_
  refine g_if_ne (tgt := 143) dX12_digitAt_137 (by decide) (fun c4 => ?_) (fun c4 => ?_)
  · rw [if_neg c4] at hf
    refine g_iconst (v := 0) dX12_digitAt_143 (by decide) ?_
    refine g_istore (i := 8) (L' := [(8, .int 0), (7, .int v2), (0, rv x0), (1, .int x1), (2, .int x2), (5, .int x5)]) dX12_digitAt_144 (Nat.le_of_ble_eq_true rfl) rfl ?_
    refine g_iconst (v := 0) dX12_digitAt_146 (by decide) ?_
    refine g_istore (i := 9) (L' := [(9, .int 0), (8, .int 0), (7, .int v2), (0, rv x0), (1, .int x1), (2, .int x2), (5, .int x5)]) dX12_digitAt_147 (Nat.le_of_ble_eq_true rfl) rfl ?_
    refine g_sub (L' := [(0, rv x0), (1, .int x1), (2, .int x2), (5, .int x5), (8, .int 0), (9, .int 0)]) [3, 4, 5, 6, 1, 0] rfl ?_
    exact bX12_digitAt_149 hX1 hX2 FU _ _ _ _ _ _ _ hf
  · rw [if_pos c4] at hf
    refine g_iload (j := 4) dX12_digitAt_140 rfl ?_
    exact g_iret dX12_digitAt_142 rfl rfl hX2 hX1 hf

set_option maxRecDepth 100000 in
set_option maxHeartbeats 4000000 in
theorem bX12_digitAt_58 {X : Xt} {σf : St} {r : Int32} (hX1 : X.2.2.1 = σf) (hX2 : X.2.2.2 = .inl (some (.int r))) : ∀ (n : Nat) (σ : St) (x0 : Nat) (x1 : Int32) (x2 : Int32) (x3 : Int32) (x5 : Int32) (x6 : Int32), fX12_digitAt_58 n σ x0 x1 x2 x3 x5 x6 = some (σf, r) → G MtX12_digitAt X σ 58 [(0, rv x0), (1, .int x1), (2, .int x2), (3, .int x3), (5, .int x5), (6, .int x6)] [] := by
  intro n
  induction n with
  | zero => intro σ x0 x1 x2 x3 x5 x6 hf; cases hf
  | succ n ih =>
    intro σ x0 x1 x2 x3 x5 x6 hf
    rw [fX12_digitAt_58] at hf
    refine g_iload (j := 5) dX12_digitAt_58 rfl ?_
    refine g_sipush (v := 10000) dX12_digitAt_60 (by decide) ?_
    refine g_icmp_ge (tgt := 125) dX12_digitAt_63 (by decide) (fun c1 => ?_) (fun c1 => ?_)
    · rw [if_pos c1] at hf
      refine g_sub (L' := [(0, rv x0), (1, .int x1), (2, .int x2), (5, .int x5)]) [0, 1, 2, 4] rfl ?_
      exact bX12_digitAt_125 hX1 hX2 hf
    · rw [if_neg c1] at hf
      refine g_iload (j := 4) dX12_digitAt_66 rfl ?_
      refine g_sipush (v := 10000) dX12_digitAt_68 (by decide) ?_
      refine g_icmp_ge (tgt := 113) dX12_digitAt_71 (by decide) (fun c2 => ?_) (fun c2 => ?_)
      · rw [if_pos c2] at hf
        exact bX12_digitAt_113 hX1 hX2 (fun σ x0 x1 x2 x3 x5 x6 hf => ih σ x0 x1 x2 x3 x5 x6 hf) hf
      · rw [if_neg c2] at hf
        refine g_iload (j := 4) dX12_digitAt_74 rfl ?_
        refine g_aload_n (j := 0) dX12_digitAt_76 rfl rfl ?_
        obtain ⟨v3, ev3, hf⟩ := ob hf
        refine g_getF dX12_digitAt_77 ev3 t_1968 hin16 hc16 (by decide) rfl ?_
        refine g_sipush (v := 11000) dX12_digitAt_80 (by decide) ?_
        refine g_iload_n (j := 2) dX12_digitAt_83 rfl rfl ?_
        refine g_iadd dX12_digitAt_84 ?_
        refine g_iconst (v := 2) dX12_digitAt_85 (by decide) ?_
        refine g_isub dX12_digitAt_86 ?_
        obtain ⟨v4, ev4, hf⟩ := ob hf
        refine g_iald dX12_digitAt_87 ev4 ?_
        refine g_imul dX12_digitAt_88 ?_
        refine g_iload (j := 5) dX12_digitAt_89 rfl ?_
        refine g_sipush (v := 10000) dX12_digitAt_91 (by decide) ?_
        refine g_imul dX12_digitAt_94 ?_
        refine g_aload_n (j := 0) dX12_digitAt_95 rfl rfl ?_
        obtain ⟨v5, ev5, hf⟩ := ob hf
        refine g_getF dX12_digitAt_96 ev5 t_1968 hin16 hc16 (by decide) rfl ?_
        refine g_sipush (v := 10000) dX12_digitAt_99 (by decide) ?_
        refine g_iload_n (j := 1) dX12_digitAt_102 rfl rfl ?_
        refine g_iadd dX12_digitAt_103 ?_
        refine g_iload_n (j := 2) dX12_digitAt_104 rfl rfl ?_
        refine g_iadd dX12_digitAt_105 ?_
        refine g_iconst (v := 2) dX12_digitAt_106 (by decide) ?_
        refine g_isub dX12_digitAt_107 ?_
        obtain ⟨v6, ev6, hf⟩ := ob hf
        refine g_iald dX12_digitAt_108 ev6 ?_
        refine g_iadd dX12_digitAt_109 ?_
        refine g_icmp_le (tgt := 125) dX12_digitAt_110 (by decide) (fun c7 => ?_) (fun c7 => ?_)
        · rw [if_pos c7] at hf
          refine g_sub (L' := [(0, rv x0), (1, .int x1), (2, .int x2), (5, .int x5)]) [0, 1, 2, 4] rfl ?_
          exact bX12_digitAt_125 hX1 hX2 hf
        · rw [if_neg c7] at hf
          exact bX12_digitAt_113 hX1 hX2 (fun σ x0 x1 x2 x3 x5 x6 hf => ih σ x0 x1 x2 x3 x5 x6 hf) hf

set_option maxRecDepth 100000 in
set_option maxHeartbeats 4000000 in
theorem wX12_digitAt (l : Launch) {σ σf : St} {x0 : Nat} {x1 : Int32} {x2 : Int32} {r : Int32} (hf : fX12_digitAt σ x0 x1 x2 = some (σf, r)) : Con MtX12_digitAt yX12_digitAt l σ [rv x0, .int x1, .int x2] σf (some (.int r)) := by
  refine Con.of (by decide +kernel) rfl (fun h => absurd (show false = true from h) (by decide)) (by simp only [sl_n, sl_r, sl_i, sl_l]; exact Nat.le_of_ble_eq_true rfl) ?_
  rw [show lv_args 0 [rv x0, .int x1, .int x2] = [(0, rv x0), (1, .int x1), (2, .int x2)] by simp only [la_n, la_r, la_i, la_l] <;> rfl]
  have hX1 : ((l, σ, σf, .inl (some (.int r))) : Xt).2.2.1 = σf := rfl
  have hX2 : ((l, σ, σf, .inl (some (.int r))) : Xt).2.2.2 = .inl (some (.int r)) := rfl
  unfold fX12_digitAt at hf
  refine g_aload_n (j := 0) dX12_digitAt_0 rfl rfl ?_
  obtain ⟨v1, ev1, hf⟩ := ob hf
  refine g_getF dX12_digitAt_1 ev1 t_1968 hin16 hc16 (by decide) rfl ?_
  refine g_sipush (v := 11000) dX12_digitAt_4 (by decide) ?_
  refine g_iload_n (j := 2) dX12_digitAt_7 rfl rfl ?_
  refine g_iadd dX12_digitAt_8 ?_
  refine g_iconst (v := 1) dX12_digitAt_9 (by decide) ?_
  refine g_isub dX12_digitAt_10 ?_
  obtain ⟨v2, ev2, hf⟩ := ob hf
  refine g_iald dX12_digitAt_11 ev2 ?_
  refine g_istore_n (i := 3) (L' := [(3, .int v2), (0, rv x0), (1, .int x1), (2, .int x2)]) dX12_digitAt_12 rfl (Nat.le_of_ble_eq_true rfl) rfl ?_
  refine g_aload_n (j := 1) dX12_digitAt_13 rfl rfl ?_
  obtain ⟨v3, ev3, hf⟩ := ob hf
  refine g_getF dX12_digitAt_14 ev3 t_1968 hin16 hc16 (by decide) rfl ?_
  refine g_sipush (v := 10000) dX12_digitAt_17 (by decide) ?_
  refine g_iload_n (j := 2) dX12_digitAt_20 rfl rfl ?_
  refine g_iadd dX12_digitAt_21 ?_
  refine g_iload_n (j := 3) dX12_digitAt_22 rfl rfl ?_
  refine g_iadd dX12_digitAt_23 ?_
  obtain ⟨v4, ev4, hf⟩ := ob hf
  refine g_iald dX12_digitAt_24 ev4 ?_
  refine g_sipush (v := 10000) dX12_digitAt_25 (by decide) ?_
  refine g_imul dX12_digitAt_28 ?_
  refine g_aload_n (j := 1) dX12_digitAt_29 rfl rfl ?_
  obtain ⟨v5, ev5, hf⟩ := ob hf
  refine g_getF dX12_digitAt_30 ev5 t_1968 hin16 hc16 (by decide) rfl ?_
  refine g_sipush (v := 10000) dX12_digitAt_33 (by decide) ?_
  refine g_iload_n (j := 2) dX12_digitAt_36 rfl rfl ?_
  refine g_iadd dX12_digitAt_37 ?_
  refine g_iload_n (j := 3) dX12_digitAt_38 rfl rfl ?_
  refine g_iadd dX12_digitAt_39 ?_
  refine g_iconst (v := 1) dX12_digitAt_40 (by decide) ?_
  refine g_isub dX12_digitAt_41 ?_
  obtain ⟨v6, ev6, hf⟩ := ob hf
  refine g_iald dX12_digitAt_42 ev6 ?_
  refine g_iadd dX12_digitAt_43 ?_
  obtain ⟨v7, ev7, hf⟩ := nm_el hf
  refine g_topI ev7 ?_
  refine g_istore (i := 4) (L' := [(4, .int v7), (3, .int v2), (0, rv x0), (1, .int x1), (2, .int x2)]) dX12_digitAt_44 (Nat.le_of_ble_eq_true rfl) rfl ?_
  refine g_iload (j := 0) dX12_digitAt_46 rfl ?_
  refine g_iload_n (j := 1) dX12_digitAt_48 rfl rfl ?_
  obtain ⟨_, h8, hf⟩ := ob hf
  refine g_idiv dX12_digitAt_49 (ckD_el h8) ?_
  obtain ⟨v9, ev9, hf⟩ := nm_el hf
  refine g_topI ev9 ?_
  refine g_istore (i := 5) (L' := [(5, .int v9), (4, .int v7), (3, .int v2), (0, rv x0), (1, .int x1), (2, .int x2)]) dX12_digitAt_50 (Nat.le_of_ble_eq_true rfl) rfl ?_
  refine g_iload (j := 1) dX12_digitAt_52 rfl ?_
  refine g_iload_n (j := 2) dX12_digitAt_54 rfl rfl ?_
  obtain ⟨_, h10, hf⟩ := ob hf
  refine g_irem dX12_digitAt_55 (ckD_el h10) ?_
  obtain ⟨v11, ev11, hf⟩ := nm_el hf
  refine g_topI ev11 ?_
  refine g_istore (i := 6) (L' := [(6, .int v11), (5, .int v9), (4, .int v7), (3, .int v2), (0, rv x0), (1, .int x1), (2, .int x2)]) dX12_digitAt_56 (Nat.le_of_ble_eq_true rfl) rfl ?_
  refine g_sub (L' := [(0, rv x0), (1, .int x1), (2, .int x2), (3, .int v2), (5, .int v9), (6, .int v11)]) [4, 5, 6, 3, 1, 0] rfl ?_
  exact bX12_digitAt_58 hX1 hX2 FU _ _ _ _ _ _ _ hf

theorem okX12_digitAt (M : Mt) (h1 : 2 + 1 ≤ M.2.2.2.2.1) (h2 : 8 + (11 + 11) + 112 ≤ M.2.2.2.2.2.1) : CallOk M MtX12_digitAt yX12_digitAt 2 := ⟨t_1954, h1, h2, ⟨by decide, by decide⟩, by decide +kernel, t_16⟩
abbrev MtX12_divides : Mt := (cX12_divides, 7, "ExactlySaidModel", none, 3, 142, false)
set_option maxRecDepth 100000 in
set_option maxHeartbeats 4000000 in
theorem bX12_divides_165 {X : Xt} {σf : St} {r : Unit} (hX1 : X.2.2.1 = σf) (hX2 : X.2.2.2 = .inl (none)) : ∀ (n : Nat) (σ : St) (x0 : Nat) (x3 : Int32) (x4 : Int32) (x6 : Int32), fX12_divides_165 n σ x0 x3 x4 x6 = some (σf, r) → G MtX12_divides X σ 165 [(0, rv x0), (3, .int x3), (4, .int x4), (6, .int x6)] [] := by
  intro n
  induction n with
  | zero => intro σ x0 x3 x4 x6 hf; cases hf
  | succ n ih =>
    intro σ x0 x3 x4 x6 hf
    rw [fX12_divides_165] at hf
    refine g_iload (j := 3) dX12_divides_165 rfl ?_
    refine g_if_lt (tgt := 195) dX12_divides_167 (by decide) (fun c1 => ?_) (fun c1 => ?_)
    · rw [if_pos c1] at hf
      refine g_aload_n (j := 0) dX12_divides_195 rfl rfl ?_
      obtain ⟨v2, ev2, hf⟩ := ob hf
      refine g_getF dX12_divides_196 ev2 t_1969 hin16 hc16 (by decide) rfl ?_
      refine g_bipush (v := 10) dX12_divides_199 (by decide) ?_
      refine g_iload (j := 2) dX12_divides_201 rfl ?_
      obtain ⟨σ3, eσ3, hf⟩ := ob hf
      refine g_iast dX12_divides_203 eσ3 ?_
      refine g_aload_n (j := 0) dX12_divides_204 rfl rfl ?_
      refine g_bipush (v := 10) dX12_divides_205 (by decide) ?_
      obtain ⟨_, h6, hf⟩ := ob hf
      obtain ⟨σ4, v5, eσ4, hf⟩ := cb_el hf
      refine g_callV_v dX12_divides_207 (wX12_trims _ eσ4) (okX12_trims _ (by decide) (by decide)) (ckK_el h6) hc16 t_1943 t_1945 s_X12_trims rfl (Nat.le_trans (cat_le _) (Nat.le_of_ble_eq_true rfl)) rfl ?_
      refine g_aload_n (j := 0) dX12_divides_210 rfl rfl ?_
      refine g_bipush (v := 9) dX12_divides_211 (by decide) ?_
      obtain ⟨_, h9, hf⟩ := ob hf
      obtain ⟨σ7, v8, eσ7, hf⟩ := cb_el hf
      refine g_callV_v dX12_divides_213 (wX12_trims _ eσ7) (okX12_trims _ (by decide) (by decide)) (ckK_el h9) hc16 t_1943 t_1945 s_X12_trims rfl (Nat.le_trans (cat_le _) (Nat.le_of_ble_eq_true rfl)) rfl ?_
      refine g_aload_n (j := 0) dX12_divides_216 rfl rfl ?_
      refine g_bipush (v := 10) dX12_divides_217 (by decide) ?_
      refine g_iload_n (j := 1) dX12_divides_219 rfl rfl ?_
      obtain ⟨_, h12, hf⟩ := ob hf
      obtain ⟨σ10, v11, eσ10, hf⟩ := cb_el hf
      refine g_callV_i dX12_divides_220 (wX12_shortens _ eσ10) (okX12_shortens _ (by decide) (by decide)) (ckK_el h12) hc16 t_1939 t_1941 s_X12_shortens rfl (Nat.le_trans (cat_le _) (Nat.le_of_ble_eq_true rfl)) rfl ?_
      refine g_istore (i := 6) (L' := [(6, .int v11), (0, rv x0), (3, .int x3), (4, .int x4)]) dX12_divides_223 (Nat.le_of_ble_eq_true rfl) rfl ?_
      exact g_vret dX12_divides_225 rfl hX2 hX1 hf
    · rw [if_neg c1] at hf
      refine g_aload_n (j := 0) dX12_divides_170 rfl rfl ?_
      obtain ⟨v13, ev13, hf⟩ := ob hf
      refine g_getF dX12_divides_171 ev13 t_1968 hin16 hc16 (by decide) rfl ?_
      refine g_sipush (v := 9000) dX12_divides_174 (by decide) ?_
      refine g_iload (j := 3) dX12_divides_177 rfl ?_
      refine g_iadd dX12_divides_179 ?_
      refine g_aload_n (j := 0) dX12_divides_180 rfl rfl ?_
      refine g_iload (j := 3) dX12_divides_181 rfl ?_
      refine g_iload (j := 2) dX12_divides_183 rfl ?_
      obtain ⟨_, h16, hf⟩ := ob hf
      obtain ⟨σ14, v15, eσ14, hf⟩ := cb_el hf
      refine g_callV_i dX12_divides_185 (wX12_digitAt _ eσ14) (okX12_digitAt _ (by decide) (by decide)) (ckK_el h16) hc16 t_1951 t_1953 s_X12_digitAt rfl (Nat.le_trans (cat_le _) (Nat.le_of_ble_eq_true rfl)) rfl ?_
      obtain ⟨σ17, eσ17, hf⟩ := ob hf
      refine g_iast dX12_divides_188 eσ17 ?_
      obtain ⟨v18, ev18, hf⟩ := nm_el hf
      refine g_iinc (L' := [(6, .int v18), (0, rv x0), (3, .int x3), (4, .int x4)]) (j := 3) (v := v18) dX12_divides_189 rfl (by rw [ev18]; rfl) (Nat.le_of_ble_eq_true rfl) rfl ?_
      refine g_goto (tgt := 165) dX12_divides_192 (by decide) ?_
      refine g_sub (L' := [(0, rv x0), (3, .int x3), (4, .int x4), (6, .int v18)]) [1, 2, 3, 0] rfl ?_
      exact ih _ _ _ _ _ hf

set_option maxRecDepth 100000 in
set_option maxHeartbeats 4000000 in
theorem wX12_divides (l : Launch) {σ σf : St} {x0 : Nat} {x1 : Int32} {x2 : Int32} {r : Unit} (hf : fX12_divides σ x0 x1 x2 = some (σf, r)) : Con MtX12_divides yX12_divides l σ [rv x0, .int x1, .int x2] σf (none) := by
  refine Con.of (by decide +kernel) rfl (fun h => absurd (show false = true from h) (by decide)) (by simp only [sl_n, sl_r, sl_i, sl_l]; exact Nat.le_of_ble_eq_true rfl) ?_
  rw [show lv_args 0 [rv x0, .int x1, .int x2] = [(0, rv x0), (1, .int x1), (2, .int x2)] by simp only [la_n, la_r, la_i, la_l] <;> rfl]
  have hX1 : ((l, σ, σf, .inl (none)) : Xt).2.2.1 = σf := rfl
  have hX2 : ((l, σ, σf, .inl (none)) : Xt).2.2.2 = .inl (none) := rfl
  unfold fX12_divides at hf
  refine g_aload_n (j := 0) dX12_divides_0 rfl rfl ?_
  refine g_bipush (v := 10) dX12_divides_1 (by decide) ?_
  refine g_iload_n (j := 1) dX12_divides_3 rfl rfl ?_
  obtain ⟨_, h3, hf⟩ := ob hf
  obtain ⟨σ1, v2, eσ1, hf⟩ := cb_el hf
  refine g_callV_v dX12_divides_4 (wX12_copies _ eσ1) (okX12_copies _ (by decide) (by decide)) (ckK_el h3) hc16 t_1927 t_1929 s_X12_copies rfl (Nat.le_trans (cat_le _) (Nat.le_of_ble_eq_true rfl)) rfl ?_
  refine g_aload_n (j := 0) dX12_divides_7 rfl rfl ?_
  obtain ⟨v4, ev4, hf⟩ := ob hf
  refine g_getF dX12_divides_8 ev4 t_1969 hin16 hc16 (by decide) rfl ?_
  refine g_bipush (v := 9) dX12_divides_11 (by decide) ?_
  refine g_iconst (v := 0) dX12_divides_13 (by decide) ?_
  obtain ⟨σ5, eσ5, hf⟩ := ob hf
  refine g_iast dX12_divides_14 eσ5 ?_
  refine g_aload_n (j := 0) dX12_divides_15 rfl rfl ?_
  refine g_iload_n (j := 1) dX12_divides_16 rfl rfl ?_
  refine g_iload_n (j := 2) dX12_divides_17 rfl rfl ?_
  obtain ⟨_, h8, hf⟩ := ob hf
  obtain ⟨σ6, v7, eσ6, hf⟩ := cb_el hf
  refine g_callV_i dX12_divides_18 (wX12_compares _ eσ6) (okX12_compares _ (by decide) (by decide)) (ckK_el h8) hc16 t_1935 t_1937 s_X12_compares rfl (Nat.le_trans (cat_le _) (Nat.le_of_ble_eq_true rfl)) rfl ?_
  refine g_if_ge (tgt := 25) dX12_divides_21 (by decide) (fun c9 => ?_) (fun c9 => ?_)
  · rw [if_pos c9] at hf
    refine g_aload_n (j := 0) dX12_divides_25 rfl rfl ?_
    obtain ⟨v10, ev10, hf⟩ := ob hf
    refine g_getF dX12_divides_26 ev10 t_1969 hin16 hc16 (by decide) rfl ?_
    refine g_iload_n (j := 2) dX12_divides_29 rfl rfl ?_
    obtain ⟨v11, ev11, hf⟩ := ob hf
    refine g_iald dX12_divides_30 ev11 ?_
    refine g_iconst (v := 1) dX12_divides_31 (by decide) ?_
    refine g_icmp_ne (tgt := 65) dX12_divides_32 (by decide) (fun c12 => ?_) (fun c12 => ?_)
    · rw [if_neg c12] at hf
      refine g_aload_n (j := 0) dX12_divides_65 rfl rfl ?_
      refine g_bipush (v := 11) dX12_divides_66 (by decide) ?_
      refine g_iload_n (j := 2) dX12_divides_68 rfl rfl ?_
      obtain ⟨_, h15, hf⟩ := ob hf
      obtain ⟨σ13, v14, eσ13, hf⟩ := cb_el hf
      refine g_callV_v dX12_divides_69 (wX12_copies _ eσ13) (okX12_copies _ (by decide) (by decide)) (ckK_el h15) hc16 t_1927 t_1929 s_X12_copies rfl (Nat.le_trans (cat_le _) (Nat.le_of_ble_eq_true rfl)) rfl ?_
      refine g_sipush (v := 10000) dX12_divides_72 (by decide) ?_
      refine g_aload_n (j := 0) dX12_divides_75 rfl rfl ?_
      obtain ⟨v16, ev16, hf⟩ := ob hf
      refine g_getF dX12_divides_76 ev16 t_1968 hin16 hc16 (by decide) rfl ?_
      refine g_sipush (v := 1000) dX12_divides_79 (by decide) ?_
      refine g_iload_n (j := 2) dX12_divides_82 rfl rfl ?_
      refine g_imul dX12_divides_83 ?_
      refine g_aload_n (j := 0) dX12_divides_84 rfl rfl ?_
      obtain ⟨v17, ev17, hf⟩ := ob hf
      refine g_getF dX12_divides_85 ev17 t_1969 hin16 hc16 (by decide) rfl ?_
      refine g_iload_n (j := 2) dX12_divides_88 rfl rfl ?_
      obtain ⟨v18, ev18, hf⟩ := ob hf
      refine g_iald dX12_divides_89 ev18 ?_
      refine g_iadd dX12_divides_90 ?_
      refine g_iconst (v := 1) dX12_divides_91 (by decide) ?_
      refine g_isub dX12_divides_92 ?_
      obtain ⟨v19, ev19, hf⟩ := ob hf
      refine g_iald dX12_divides_93 ev19 ?_
      refine g_iconst (v := 1) dX12_divides_94 (by decide) ?_
      refine g_iadd dX12_divides_95 ?_
      obtain ⟨_, h20, hf⟩ := ob hf
      refine g_idiv dX12_divides_96 (ckD_el h20) ?_
      obtain ⟨v21, ev21, hf⟩ := nm_el hf
      refine g_topI ev21 ?_
      refine g_istore_n (i := 3) (L' := [(3, .int v21), (0, rv x0), (1, .int x1), (2, .int x2)]) dX12_divides_97 rfl (Nat.le_of_ble_eq_true rfl) rfl ?_
      refine g_aload_n (j := 1) dX12_divides_98 rfl rfl ?_
      refine g_bipush (v := 11) dX12_divides_99 (by decide) ?_
      refine g_iload_n (j := 0) dX12_divides_101 rfl rfl ?_
      obtain ⟨_, h24, hf⟩ := ob hf
      obtain ⟨σ22, v23, eσ22, hf⟩ := cb_el hf
      refine g_callV_v dX12_divides_102 (wX12_times _ eσ22) (okX12_times _ (by decide) (by decide)) (ckK_el h24) hc16 t_1947 t_1949 s_X12_times rfl (Nat.le_trans (cat_le _) (Nat.le_of_ble_eq_true rfl)) rfl ?_
      refine g_aload_n (j := 1) dX12_divides_105 rfl rfl ?_
      refine g_bipush (v := 10) dX12_divides_106 (by decide) ?_
      refine g_iload_n (j := 0) dX12_divides_108 rfl rfl ?_
      obtain ⟨_, h27, hf⟩ := ob hf
      obtain ⟨σ25, v26, eσ25, hf⟩ := cb_el hf
      refine g_callV_v dX12_divides_109 (wX12_times _ eσ25) (okX12_times _ (by decide) (by decide)) (ckK_el h27) hc16 t_1947 t_1949 s_X12_times rfl (Nat.le_trans (cat_le _) (Nat.le_of_ble_eq_true rfl)) rfl ?_
      refine g_aload_n (j := 1) dX12_divides_112 rfl rfl ?_
      obtain ⟨v28, ev28, hf⟩ := ob hf
      refine g_getF dX12_divides_113 ev28 t_1969 hin16 hc16 (by decide) rfl ?_
      refine g_bipush (v := 11) dX12_divides_116 (by decide) ?_
      obtain ⟨v29, ev29, hf⟩ := ob hf
      refine g_iald dX12_divides_118 ev29 ?_
      refine g_istore (i := 4) (L' := [(4, .int v29), (3, .int v21), (0, rv x0), (1, .int x1), (2, .int x2)]) dX12_divides_119 (Nat.le_of_ble_eq_true rfl) rfl ?_
      refine g_aload_n (j := 2) dX12_divides_121 rfl rfl ?_
      obtain ⟨v30, ev30, hf⟩ := ob hf
      refine g_getF dX12_divides_122 ev30 t_1969 hin16 hc16 (by decide) rfl ?_
      refine g_bipush (v := 10) dX12_divides_125 (by decide) ?_
      obtain ⟨v31, ev31, hf⟩ := ob hf
      refine g_iald dX12_divides_127 ev31 ?_
      refine g_iload (j := 0) dX12_divides_128 rfl ?_
      refine g_isub dX12_divides_130 ?_
      obtain ⟨v32, ev32, hf⟩ := nm_el hf
      refine g_topI ev32 ?_
      refine g_istore (i := 5) (L' := [(5, .int v32), (4, .int v29), (3, .int v21), (0, rv x0), (1, .int x1), (2, .int x2)]) dX12_divides_131 (Nat.le_of_ble_eq_true rfl) rfl ?_
      refine g_aload_n (j := 3) dX12_divides_133 rfl rfl ?_
      obtain ⟨v33, ev33, hf⟩ := ob hf
      refine g_getF dX12_divides_134 ev33 t_1968 hin16 hc16 (by decide) rfl ?_
      refine g_sipush (v := 10000) dX12_divides_137 (by decide) ?_
      refine g_aload_n (j := 3) dX12_divides_140 rfl rfl ?_
      obtain ⟨v34, ev34, hf⟩ := ob hf
      refine g_getF dX12_divides_141 ev34 t_1969 hin16 hc16 (by decide) rfl ?_
      refine g_bipush (v := 10) dX12_divides_144 (by decide) ?_
      obtain ⟨v35, ev35, hf⟩ := ob hf
      refine g_iald dX12_divides_146 ev35 ?_
      refine g_iadd dX12_divides_147 ?_
      refine g_iconst (v := 0) dX12_divides_148 (by decide) ?_
      obtain ⟨σ36, eσ36, hf⟩ := ob hf
      refine g_iast dX12_divides_149 eσ36 ?_
      refine g_aload_n (j := 3) dX12_divides_150 rfl rfl ?_
      obtain ⟨v37, ev37, hf⟩ := ob hf
      refine g_getF dX12_divides_151 ev37 t_1969 hin16 hc16 (by decide) rfl ?_
      refine g_bipush (v := 9) dX12_divides_154 (by decide) ?_
      refine g_iload (j := 0) dX12_divides_156 rfl ?_
      refine g_iconst (v := 1) dX12_divides_158 (by decide) ?_
      refine g_iadd dX12_divides_159 ?_
      obtain ⟨σ38, eσ38, hf⟩ := ob hf
      refine g_iast dX12_divides_160 eσ38 ?_
      refine g_iload (j := 0) dX12_divides_161 rfl ?_
      refine g_istore (i := 6) (L' := [(6, .int v32), (5, .int v32), (4, .int v29), (3, .int v21), (0, rv x0), (1, .int x1), (2, .int x2)]) dX12_divides_163 (Nat.le_of_ble_eq_true rfl) rfl ?_
      refine g_sub (L' := [(0, rv x0), (3, .int v21), (4, .int v29), (6, .int v32)]) [4, 3, 2, 0] rfl ?_
      exact bX12_divides_165 hX1 hX2 FU _ _ _ _ _ hf
    · rw [if_pos c12] at hf
      refine g_aload_n (j := 0) dX12_divides_35 rfl rfl ?_
      refine g_bipush (v := 9) dX12_divides_36 (by decide) ?_
      refine g_iload_n (j := 1) dX12_divides_38 rfl rfl ?_
      obtain ⟨_, h41, hf⟩ := ob hf
      obtain ⟨σ39, v40, eσ39, hf⟩ := cb_el hf
      refine g_callV_v dX12_divides_39 (wX12_copies _ eσ39) (okX12_copies _ (by decide) (by decide)) (ckK_el h41) hc16 t_1927 t_1929 s_X12_copies rfl (Nat.le_trans (cat_le _) (Nat.le_of_ble_eq_true rfl)) rfl ?_
      refine g_aload_n (j := 0) dX12_divides_42 rfl rfl ?_
      refine g_bipush (v := 10) dX12_divides_43 (by decide) ?_
      refine g_aload_n (j := 0) dX12_divides_45 rfl rfl ?_
      refine g_bipush (v := 9) dX12_divides_46 (by decide) ?_
      refine g_aload_n (j := 0) dX12_divides_48 rfl rfl ?_
      obtain ⟨v42, ev42, hf⟩ := ob hf
      refine g_getF dX12_divides_49 ev42 t_1968 hin16 hc16 (by decide) rfl ?_
      refine g_sipush (v := 1000) dX12_divides_52 (by decide) ?_
      refine g_iload_n (j := 2) dX12_divides_55 rfl rfl ?_
      refine g_imul dX12_divides_56 ?_
      obtain ⟨v43, ev43, hf⟩ := ob hf
      refine g_iald dX12_divides_57 ev43 ?_
      obtain ⟨_, h46, hf⟩ := ob hf
      obtain ⟨σ44, v45, eσ44, hf⟩ := cb_el hf
      refine g_callV_i dX12_divides_58 (wX12_shortens _ eσ44) (okX12_shortens _ (by decide) (by decide)) (ckK_el h46) hc16 t_1939 t_1941 s_X12_shortens rfl (Nat.le_trans (cat_le _) (Nat.le_of_ble_eq_true rfl)) rfl ?_
      obtain ⟨_, h49, hf⟩ := ob hf
      obtain ⟨σ47, v48, eσ47, hf⟩ := cb_el hf
      refine g_callV_v dX12_divides_61 (wX12_puts _ eσ47) (okX12_puts _ (by decide) (by decide)) (ckK_el h49) hc16 t_1911 t_1913 s_X12_puts rfl (Nat.le_trans (cat_le _) (Nat.le_of_ble_eq_true rfl)) rfl ?_
      exact g_vret dX12_divides_64 rfl hX2 hX1 hf
  · rw [if_neg c9] at hf
    exact g_vret dX12_divides_24 rfl hX2 hX1 hf

theorem okX12_divides (M : Mt) (h1 : 3 + 1 ≤ M.2.2.2.2.1) (h2 : 8 + (7 + 11) + 142 ≤ M.2.2.2.2.2.1) : CallOk M MtX12_divides yX12_divides 2 := ⟨t_1934, h1, h2, ⟨by decide, by decide⟩, by decide +kernel, t_16⟩
abbrev MtX12_finds : Mt := (cX12_finds, 3, "ExactlySaidModel", none, 4, 168, false)
set_option maxRecDepth 100000 in
set_option maxHeartbeats 4000000 in
theorem bX12_finds_14 {X : Xt} {σf : St} {r : Unit} (hX1 : X.2.2.1 = σf) (hX2 : X.2.2.2 = .inl (none)) : ∀ (n : Nat) (σ : St) (x0 : Nat), fX12_finds_14 n σ x0 = some (σf, r) → G MtX12_finds X σ 14 [(0, rv x0)] [] := by
  intro n
  induction n with
  | zero => intro σ x0 hf; cases hf
  | succ n ih =>
    intro σ x0 hf
    rw [fX12_finds_14] at hf
    refine g_aload_n (j := 0) dX12_finds_14 rfl rfl ?_
    obtain ⟨v1, ev1, hf⟩ := ob hf
    refine g_getF dX12_finds_15 ev1 t_1969 hin16 hc16 (by decide) rfl ?_
    refine g_bipush (v := 12) dX12_finds_18 (by decide) ?_
    obtain ⟨v2, ev2, hf⟩ := ob hf
    refine g_iald dX12_finds_20 ev2 ?_
    refine g_if_le (tgt := 51) dX12_finds_21 (by decide) (fun c3 => ?_) (fun c3 => ?_)
    · rw [if_pos c3] at hf
      exact g_vret dX12_finds_51 rfl hX2 hX1 hf
    · rw [if_neg c3] at hf
      refine g_aload_n (j := 0) dX12_finds_24 rfl rfl ?_
      refine g_bipush (v := 8) dX12_finds_25 (by decide) ?_
      refine g_bipush (v := 12) dX12_finds_27 (by decide) ?_
      obtain ⟨_, h6, hf⟩ := ob hf
      obtain ⟨σ4, v5, eσ4, hf⟩ := cb_el hf
      refine g_callV_v dX12_finds_29 (wX12_divides _ eσ4) (okX12_divides _ (by decide) (by decide)) (ckK_el h6) hc16 t_1931 t_1933 s_X12_divides rfl (Nat.le_trans (cat_le _) (Nat.le_of_ble_eq_true rfl)) rfl ?_
      refine g_aload_n (j := 0) dX12_finds_32 rfl rfl ?_
      refine g_bipush (v := 8) dX12_finds_33 (by decide) ?_
      refine g_bipush (v := 12) dX12_finds_35 (by decide) ?_
      obtain ⟨_, h9, hf⟩ := ob hf
      obtain ⟨σ7, v8, eσ7, hf⟩ := cb_el hf
      refine g_callV_v dX12_finds_37 (wX12_copies _ eσ7) (okX12_copies _ (by decide) (by decide)) (ckK_el h9) hc16 t_1927 t_1929 s_X12_copies rfl (Nat.le_trans (cat_le _) (Nat.le_of_ble_eq_true rfl)) rfl ?_
      refine g_aload_n (j := 0) dX12_finds_40 rfl rfl ?_
      refine g_bipush (v := 12) dX12_finds_41 (by decide) ?_
      refine g_bipush (v := 10) dX12_finds_43 (by decide) ?_
      obtain ⟨_, h12, hf⟩ := ob hf
      obtain ⟨σ10, v11, eσ10, hf⟩ := cb_el hf
      refine g_callV_v dX12_finds_45 (wX12_copies _ eσ10) (okX12_copies _ (by decide) (by decide)) (ckK_el h12) hc16 t_1927 t_1929 s_X12_copies rfl (Nat.le_trans (cat_le _) (Nat.le_of_ble_eq_true rfl)) rfl ?_
      refine g_goto (tgt := 14) dX12_finds_48 (by decide) ?_
      exact ih _ _ hf

set_option maxRecDepth 100000 in
set_option maxHeartbeats 4000000 in
theorem wX12_finds (l : Launch) {σ σf : St} {x0 : Nat} {x1 : Int32} {x2 : Int32} {r : Unit} (hf : fX12_finds σ x0 x1 x2 = some (σf, r)) : Con MtX12_finds yX12_finds l σ [rv x0, .int x1, .int x2] σf (none) := by
  refine Con.of (by decide +kernel) rfl (fun h => absurd (show false = true from h) (by decide)) (by simp only [sl_n, sl_r, sl_i, sl_l]; exact Nat.le_of_ble_eq_true rfl) ?_
  rw [show lv_args 0 [rv x0, .int x1, .int x2] = [(0, rv x0), (1, .int x1), (2, .int x2)] by simp only [la_n, la_r, la_i, la_l] <;> rfl]
  have hX1 : ((l, σ, σf, .inl (none)) : Xt).2.2.1 = σf := rfl
  have hX2 : ((l, σ, σf, .inl (none)) : Xt).2.2.2 = .inl (none) := rfl
  unfold fX12_finds at hf
  refine g_aload_n (j := 0) dX12_finds_0 rfl rfl ?_
  refine g_bipush (v := 8) dX12_finds_1 (by decide) ?_
  refine g_iload_n (j := 1) dX12_finds_3 rfl rfl ?_
  obtain ⟨_, h3, hf⟩ := ob hf
  obtain ⟨σ1, v2, eσ1, hf⟩ := cb_el hf
  refine g_callV_v dX12_finds_4 (wX12_copies _ eσ1) (okX12_copies _ (by decide) (by decide)) (ckK_el h3) hc16 t_1927 t_1929 s_X12_copies rfl (Nat.le_trans (cat_le _) (Nat.le_of_ble_eq_true rfl)) rfl ?_
  refine g_aload_n (j := 0) dX12_finds_7 rfl rfl ?_
  refine g_bipush (v := 12) dX12_finds_8 (by decide) ?_
  refine g_iload_n (j := 2) dX12_finds_10 rfl rfl ?_
  obtain ⟨_, h6, hf⟩ := ob hf
  obtain ⟨σ4, v5, eσ4, hf⟩ := cb_el hf
  refine g_callV_v dX12_finds_11 (wX12_copies _ eσ4) (okX12_copies _ (by decide) (by decide)) (ckK_el h6) hc16 t_1927 t_1929 s_X12_copies rfl (Nat.le_trans (cat_le _) (Nat.le_of_ble_eq_true rfl)) rfl ?_
  refine g_sub (L' := [(0, rv x0)]) [0] rfl ?_
  exact bX12_finds_14 hX1 hX2 FU _ _ hf

theorem okX12_finds (M : Mt) (h1 : 4 + 1 ≤ M.2.2.2.2.1) (h2 : 8 + (3 + 11) + 168 ≤ M.2.2.2.2.2.1) : CallOk M MtX12_finds yX12_finds 2 := ⟨t_1926, h1, h2, ⟨by decide, by decide⟩, by decide +kernel, t_16⟩
abbrev MtX12_lowers : Mt := (cX12_lowers, 1, "ExactlySaidModel", none, 5, 190, false)
set_option maxRecDepth 100000 in
set_option maxHeartbeats 4000000 in
theorem wX12_lowers (l : Launch) {σ σf : St} {x0 : Nat} {r : Unit} (hf : fX12_lowers σ x0 = some (σf, r)) : Con MtX12_lowers yX12_lowers l σ [rv x0] σf (none) := by
  refine Con.of (by decide +kernel) rfl (fun h => absurd (show false = true from h) (by decide)) (by simp only [sl_n, sl_r, sl_i, sl_l]; exact Nat.le_of_ble_eq_true rfl) ?_
  rw [show lv_args 0 [rv x0] = [(0, rv x0)] by simp only [la_n, la_r, la_i, la_l] <;> rfl]
  have hX1 : ((l, σ, σf, .inl (none)) : Xt).2.2.1 = σf := rfl
  have hX2 : ((l, σ, σf, .inl (none)) : Xt).2.2.2 = .inl (none) := rfl
  unfold fX12_lowers at hf
  refine g_aload_n (j := 0) dX12_lowers_0 rfl rfl ?_
  refine g_bipush (v := 6) dX12_lowers_1 (by decide) ?_
  refine g_bipush (v := 7) dX12_lowers_3 (by decide) ?_
  obtain ⟨_, h3, hf⟩ := ob hf
  obtain ⟨σ1, v2, eσ1, hf⟩ := cb_el hf
  refine g_callV_v dX12_lowers_5 (wX12_finds _ eσ1) (okX12_finds _ (by decide) (by decide)) (ckK_el h3) hc16 t_1923 t_1925 s_X12_finds rfl (Nat.le_trans (cat_le _) (Nat.le_of_ble_eq_true rfl)) rfl ?_
  refine g_aload_n (j := 0) dX12_lowers_8 rfl rfl ?_
  refine g_bipush (v := 6) dX12_lowers_9 (by decide) ?_
  refine g_bipush (v := 8) dX12_lowers_11 (by decide) ?_
  obtain ⟨_, h6, hf⟩ := ob hf
  obtain ⟨σ4, v5, eσ4, hf⟩ := cb_el hf
  refine g_callV_v dX12_lowers_13 (wX12_divides _ eσ4) (okX12_divides _ (by decide) (by decide)) (ckK_el h6) hc16 t_1931 t_1933 s_X12_divides rfl (Nat.le_trans (cat_le _) (Nat.le_of_ble_eq_true rfl)) rfl ?_
  refine g_aload_n (j := 0) dX12_lowers_16 rfl rfl ?_
  refine g_bipush (v := 6) dX12_lowers_17 (by decide) ?_
  refine g_bipush (v := 9) dX12_lowers_19 (by decide) ?_
  obtain ⟨_, h9, hf⟩ := ob hf
  obtain ⟨σ7, v8, eσ7, hf⟩ := cb_el hf
  refine g_callV_v dX12_lowers_21 (wX12_copies _ eσ7) (okX12_copies _ (by decide) (by decide)) (ckK_el h9) hc16 t_1927 t_1929 s_X12_copies rfl (Nat.le_trans (cat_le _) (Nat.le_of_ble_eq_true rfl)) rfl ?_
  refine g_aload_n (j := 0) dX12_lowers_24 rfl rfl ?_
  refine g_bipush (v := 7) dX12_lowers_25 (by decide) ?_
  refine g_bipush (v := 8) dX12_lowers_27 (by decide) ?_
  obtain ⟨_, h12, hf⟩ := ob hf
  obtain ⟨σ10, v11, eσ10, hf⟩ := cb_el hf
  refine g_callV_v dX12_lowers_29 (wX12_divides _ eσ10) (okX12_divides _ (by decide) (by decide)) (ckK_el h12) hc16 t_1931 t_1933 s_X12_divides rfl (Nat.le_trans (cat_le _) (Nat.le_of_ble_eq_true rfl)) rfl ?_
  refine g_aload_n (j := 0) dX12_lowers_32 rfl rfl ?_
  refine g_bipush (v := 7) dX12_lowers_33 (by decide) ?_
  refine g_bipush (v := 9) dX12_lowers_35 (by decide) ?_
  obtain ⟨_, h15, hf⟩ := ob hf
  obtain ⟨σ13, v14, eσ13, hf⟩ := cb_el hf
  refine g_callV_v dX12_lowers_37 (wX12_copies _ eσ13) (okX12_copies _ (by decide) (by decide)) (ckK_el h15) hc16 t_1927 t_1929 s_X12_copies rfl (Nat.le_trans (cat_le _) (Nat.le_of_ble_eq_true rfl)) rfl ?_
  exact g_vret dX12_lowers_40 rfl hX2 hX1 hf

theorem okX12_lowers (M : Mt) (h1 : 5 + 1 ≤ M.2.2.2.2.1) (h2 : 8 + (1 + 11) + 190 ≤ M.2.2.2.2.2.1) : CallOk M MtX12_lowers yX12_lowers 0 := ⟨t_1922, h1, h2, ⟨by decide, by decide⟩, by decide +kernel, t_16⟩
abbrev MtX12_isSmall : Mt := (cX12_isSmall, 2, "ExactlySaidModel", (Option.some Jvm.ClassFile.FieldType.boolean), 1, 84, false)
set_option maxRecDepth 100000 in
set_option maxHeartbeats 4000000 in
theorem bX12_isSmall_42 {X : Xt} {σf : St} {r : Int32} (hX1 : X.2.2.1 = σf) (hX2 : X.2.2.2 = .inl (some (.int r))) {σ : St} (hf : fX12_isSmall_42 σ  = some (σf, r)) : G MtX12_isSmall X σ 42 [] [] := by
  unfold fX12_isSmall_42 at hf
  refine g_iconst (v := 1) dX12_isSmall_42 (by decide) ?_
  refine g_goto (tgt := 47) dX12_isSmall_43 (by decide) ?_
  exact g_iret dX12_isSmall_47 rfl (by decide) hX2 hX1 hf

set_option maxRecDepth 100000 in
set_option maxHeartbeats 4000000 in
theorem wX12_isSmall (l : Launch) {σ σf : St} {x0 : Nat} {x1 : Int32} {r : Int32} (hf : fX12_isSmall σ x0 x1 = some (σf, r)) : Con MtX12_isSmall yX12_isSmall l σ [rv x0, .int x1] σf (some (.int r)) := by
  refine Con.of (by decide +kernel) rfl (fun h => absurd (show false = true from h) (by decide)) (by simp only [sl_n, sl_r, sl_i, sl_l]; exact Nat.le_of_ble_eq_true rfl) ?_
  rw [show lv_args 0 [rv x0, .int x1] = [(0, rv x0), (1, .int x1)] by simp only [la_n, la_r, la_i, la_l] <;> rfl]
  have hX1 : ((l, σ, σf, .inl (some (.int r))) : Xt).2.2.1 = σf := rfl
  have hX2 : ((l, σ, σf, .inl (some (.int r))) : Xt).2.2.2 = .inl (some (.int r)) := rfl
  unfold fX12_isSmall at hf
  refine g_aload_n (j := 0) dX12_isSmall_0 rfl rfl ?_
  obtain ⟨v1, ev1, hf⟩ := ob hf
  refine g_getF dX12_isSmall_1 ev1 t_1969 hin16 hc16 (by decide) rfl ?_
  refine g_iload_n (j := 1) dX12_isSmall_4 rfl rfl ?_
  obtain ⟨v2, ev2, hf⟩ := ob hf
  refine g_iald dX12_isSmall_5 ev2 ?_
  refine g_bipush (v := 8) dX12_isSmall_6 (by decide) ?_
  refine g_icmp_lt (tgt := 42) dX12_isSmall_8 (by decide) (fun c3 => ?_) (fun c3 => ?_)
  · rw [if_pos c3] at hf
    refine g_sub (L' := []) [] rfl ?_
    exact bX12_isSmall_42 hX1 hX2 hf
  · rw [if_neg c3] at hf
    refine g_aload_n (j := 0) dX12_isSmall_11 rfl rfl ?_
    obtain ⟨v4, ev4, hf⟩ := ob hf
    refine g_getF dX12_isSmall_12 ev4 t_1969 hin16 hc16 (by decide) rfl ?_
    refine g_iload_n (j := 1) dX12_isSmall_15 rfl rfl ?_
    obtain ⟨v5, ev5, hf⟩ := ob hf
    refine g_iald dX12_isSmall_16 ev5 ?_
    refine g_bipush (v := 8) dX12_isSmall_17 (by decide) ?_
    refine g_icmp_ne (tgt := 46) dX12_isSmall_19 (by decide) (fun c6 => ?_) (fun c6 => ?_)
    · rw [if_neg c6] at hf
      refine g_iconst (v := 0) dX12_isSmall_46 (by decide) ?_
      exact g_iret dX12_isSmall_47 rfl (by decide) hX2 hX1 hf
    · rw [if_pos c6] at hf
      refine g_aload_n (j := 0) dX12_isSmall_22 rfl rfl ?_
      obtain ⟨v7, ev7, hf⟩ := ob hf
      refine g_getF dX12_isSmall_23 ev7 t_1968 hin16 hc16 (by decide) rfl ?_
      refine g_sipush (v := 1000) dX12_isSmall_26 (by decide) ?_
      refine g_iload_n (j := 1) dX12_isSmall_29 rfl rfl ?_
      refine g_imul dX12_isSmall_30 ?_
      refine g_bipush (v := 8) dX12_isSmall_31 (by decide) ?_
      refine g_iadd dX12_isSmall_33 ?_
      refine g_iconst (v := 1) dX12_isSmall_34 (by decide) ?_
      refine g_isub dX12_isSmall_35 ?_
      obtain ⟨v8, ev8, hf⟩ := ob hf
      refine g_iald dX12_isSmall_36 ev8 ?_
      refine g_bipush (v := 100) dX12_isSmall_37 (by decide) ?_
      refine g_icmp_ge (tgt := 46) dX12_isSmall_39 (by decide) (fun c9 => ?_) (fun c9 => ?_)
      · rw [if_pos c9] at hf
        refine g_iconst (v := 0) dX12_isSmall_46 (by decide) ?_
        exact g_iret dX12_isSmall_47 rfl (by decide) hX2 hX1 hf
      · rw [if_neg c9] at hf
        refine g_sub (L' := []) [] rfl ?_
        exact bX12_isSmall_42 hX1 hX2 hf

theorem okX12_isSmall (M : Mt) (h1 : 1 + 1 ≤ M.2.2.2.2.1) (h2 : 8 + (2 + 11) + 84 ≤ M.2.2.2.2.2.1) : CallOk M MtX12_isSmall yX12_isSmall 1 := ⟨t_1962, h1, h2, ⟨by decide, by decide⟩, by decide +kernel, t_16⟩
abbrev MtX12_limb : Mt := (cX12_limb, 3, "ExactlySaidModel", (Option.some Jvm.ClassFile.FieldType.int), 1, 84, false)
set_option maxRecDepth 100000 in
set_option maxHeartbeats 4000000 in
theorem wX12_limb (l : Launch) {σ σf : St} {x0 : Nat} {x1 : Int32} {x2 : Int32} {r : Int32} (hf : fX12_limb σ x0 x1 x2 = some (σf, r)) : Con MtX12_limb yX12_limb l σ [rv x0, .int x1, .int x2] σf (some (.int r)) := by
  refine Con.of (by decide +kernel) rfl (fun h => absurd (show false = true from h) (by decide)) (by simp only [sl_n, sl_r, sl_i, sl_l]; exact Nat.le_of_ble_eq_true rfl) ?_
  rw [show lv_args 0 [rv x0, .int x1, .int x2] = [(0, rv x0), (1, .int x1), (2, .int x2)] by simp only [la_n, la_r, la_i, la_l] <;> rfl]
  have hX1 : ((l, σ, σf, .inl (some (.int r))) : Xt).2.2.1 = σf := rfl
  have hX2 : ((l, σ, σf, .inl (some (.int r))) : Xt).2.2.2 = .inl (some (.int r)) := rfl
  unfold fX12_limb at hf
  refine g_iload_n (j := 2) dX12_limb_0 rfl rfl ?_
  refine g_aload_n (j := 0) dX12_limb_1 rfl rfl ?_
  obtain ⟨v1, ev1, hf⟩ := ob hf
  refine g_getF dX12_limb_2 ev1 t_1969 hin16 hc16 (by decide) rfl ?_
  refine g_iload_n (j := 1) dX12_limb_5 rfl rfl ?_
  obtain ⟨v2, ev2, hf⟩ := ob hf
  refine g_iald dX12_limb_6 ev2 ?_
  refine g_icmp_ge (tgt := 25) dX12_limb_7 (by decide) (fun c3 => ?_) (fun c3 => ?_)
  · rw [if_pos c3] at hf
    refine g_iconst (v := 0) dX12_limb_25 (by decide) ?_
    exact g_iret dX12_limb_26 rfl rfl hX2 hX1 hf
  · rw [if_neg c3] at hf
    refine g_aload_n (j := 0) dX12_limb_10 rfl rfl ?_
    obtain ⟨v4, ev4, hf⟩ := ob hf
    refine g_getF dX12_limb_11 ev4 t_1968 hin16 hc16 (by decide) rfl ?_
    refine g_sipush (v := 1000) dX12_limb_14 (by decide) ?_
    refine g_iload_n (j := 1) dX12_limb_17 rfl rfl ?_
    refine g_imul dX12_limb_18 ?_
    refine g_iload_n (j := 2) dX12_limb_19 rfl rfl ?_
    refine g_iadd dX12_limb_20 ?_
    obtain ⟨v5, ev5, hf⟩ := ob hf
    refine g_iald dX12_limb_21 ev5 ?_
    refine g_goto (tgt := 26) dX12_limb_22 (by decide) ?_
    exact g_iret dX12_limb_26 rfl rfl hX2 hX1 hf

theorem okX12_limb (M : Mt) (h1 : 1 + 1 ≤ M.2.2.2.2.1) (h2 : 8 + (3 + 11) + 84 ≤ M.2.2.2.2.2.1) : CallOk M MtX12_limb yX12_limb 2 := ⟨t_1966, h1, h2, ⟨by decide, by decide⟩, by decide +kernel, t_16⟩
abbrev MtX12_lays : Mt := (cX12_lays, 4, "ExactlySaidModel", (Option.some Jvm.ClassFile.FieldType.boolean), 6, 210, false)
set_option maxRecDepth 100000 in
set_option maxHeartbeats 4000000 in
theorem bX12_lays_47 {X : Xt} {σf : St} {r : Int32} (hX1 : X.2.2.1 = σf) (hX2 : X.2.2.2 = .inl (some (.int r))) : ∀ (n : Nat) (σ : St) (x0 : Nat) (x1 : Int32) (x3 : Int32), fX12_lays_47 n σ x0 x1 x3 = some (σf, r) → G MtX12_lays X σ 47 [(0, rv x0), (1, .int x1), (3, .int x3)] [] := by
  intro n
  induction n with
  | zero => intro σ x0 x1 x3 hf; cases hf
  | succ n ih =>
    intro σ x0 x1 x3 hf
    rw [fX12_lays_47] at hf
    refine g_iload_n (j := 2) dX12_lays_47 rfl rfl ?_
    refine g_bipush (v := 8) dX12_lays_48 (by decide) ?_
    refine g_icmp_ge (tgt := 98) dX12_lays_50 (by decide) (fun c1 => ?_) (fun c1 => ?_)
    · rw [if_pos c1] at hf
      refine g_iconst (v := 1) dX12_lays_98 (by decide) ?_
      exact g_iret dX12_lays_99 rfl (by decide) hX2 hX1 hf
    · rw [if_neg c1] at hf
      refine g_aload_n (j := 0) dX12_lays_53 rfl rfl ?_
      obtain ⟨v2, ev2, hf⟩ := ob hf
      refine g_getF dX12_lays_54 ev2 t_1971 hin16 hc16 (by decide) rfl ?_
      refine g_bipush (v := 16) dX12_lays_57 (by decide) ?_
      refine g_iload_n (j := 1) dX12_lays_59 rfl rfl ?_
      refine g_imul dX12_lays_60 ?_
      refine g_iload_n (j := 2) dX12_lays_61 rfl rfl ?_
      refine g_iadd dX12_lays_62 ?_
      refine g_aload_n (j := 0) dX12_lays_63 rfl rfl ?_
      refine g_bipush (v := 6) dX12_lays_64 (by decide) ?_
      refine g_iload_n (j := 2) dX12_lays_66 rfl rfl ?_
      obtain ⟨_, h5, hf⟩ := ob hf
      obtain ⟨σ3, v4, eσ3, hf⟩ := cb_el hf
      refine g_callV_i dX12_lays_67 (wX12_limb _ eσ3) (okX12_limb _ (by decide) (by decide)) (ckK_el h5) hc16 t_1963 t_1965 s_X12_limb rfl (Nat.le_trans (cat_le _) (Nat.le_of_ble_eq_true rfl)) rfl ?_
      obtain ⟨σ6, eσ6, hf⟩ := ob hf
      refine g_iast dX12_lays_70 eσ6 ?_
      refine g_aload_n (j := 0) dX12_lays_71 rfl rfl ?_
      obtain ⟨v7, ev7, hf⟩ := ob hf
      refine g_getF dX12_lays_72 ev7 t_1971 hin16 hc16 (by decide) rfl ?_
      refine g_bipush (v := 16) dX12_lays_75 (by decide) ?_
      refine g_iload_n (j := 1) dX12_lays_77 rfl rfl ?_
      refine g_imul dX12_lays_78 ?_
      refine g_bipush (v := 8) dX12_lays_79 (by decide) ?_
      refine g_iadd dX12_lays_81 ?_
      refine g_iload_n (j := 2) dX12_lays_82 rfl rfl ?_
      refine g_iadd dX12_lays_83 ?_
      refine g_aload_n (j := 0) dX12_lays_84 rfl rfl ?_
      refine g_bipush (v := 7) dX12_lays_85 (by decide) ?_
      refine g_iload_n (j := 2) dX12_lays_87 rfl rfl ?_
      obtain ⟨_, h10, hf⟩ := ob hf
      obtain ⟨σ8, v9, eσ8, hf⟩ := cb_el hf
      refine g_callV_i dX12_lays_88 (wX12_limb _ eσ8) (okX12_limb _ (by decide) (by decide)) (ckK_el h10) hc16 t_1963 t_1965 s_X12_limb rfl (Nat.le_trans (cat_le _) (Nat.le_of_ble_eq_true rfl)) rfl ?_
      obtain ⟨σ11, eσ11, hf⟩ := ob hf
      refine g_iast dX12_lays_91 eσ11 ?_
      obtain ⟨v12, ev12, hf⟩ := nm_el hf
      refine g_iinc (L' := [(3, .int v12), (0, rv x0), (1, .int x1)]) (j := 2) (v := v12) dX12_lays_92 rfl (by rw [ev12]; rfl) (Nat.le_of_ble_eq_true rfl) rfl ?_
      refine g_goto (tgt := 47) dX12_lays_95 (by decide) ?_
      refine g_sub (L' := [(0, rv x0), (1, .int x1), (3, .int v12)]) [1, 2, 0] rfl ?_
      exact ih _ _ _ _ hf

set_option maxRecDepth 100000 in
set_option maxHeartbeats 4000000 in
theorem bX12_lays_44 {X : Xt} {σf : St} {r : Int32} (hX1 : X.2.2.1 = σf) (hX2 : X.2.2.2 = .inl (some (.int r))) {σ : St} {x0 : Nat} {x1 : Int32} {y0 : Nat} {y1 : Int32} {y2 : Int32} (hf : fX12_lays_44 σ x0 x1 y0 y1 y2 = some (σf, r)) : G MtX12_lays X σ 44 [(0, rv x0), (1, .int x1)] [.int y2, .int y1, rv y0] := by
  unfold fX12_lays_44 at hf
  obtain ⟨σ1, eσ1, hf⟩ := ob hf
  refine g_iast dX12_lays_44 eσ1 ?_
  refine g_iconst (v := 0) dX12_lays_45 (by decide) ?_
  refine g_istore_n (i := 3) (L' := [(3, .int 0), (0, rv x0), (1, .int x1)]) dX12_lays_46 rfl (Nat.le_of_ble_eq_true rfl) rfl ?_
  refine g_sub (L' := [(0, rv x0), (1, .int x1), (3, .int 0)]) [1, 2, 0] rfl ?_
  exact bX12_lays_47 hX1 hX2 FU _ _ _ _ hf

set_option maxRecDepth 100000 in
set_option maxHeartbeats 4000000 in
theorem wX12_lays (l : Launch) {σ σf : St} {x0 : Nat} {x1 : Int32} {x2 : Int32} {r : Int32} (hf : fX12_lays σ x0 x1 x2 = some (σf, r)) : Con MtX12_lays yX12_lays l σ [rv x0, .int x1, .int x2] σf (some (.int r)) := by
  refine Con.of (by decide +kernel) rfl (fun h => absurd (show false = true from h) (by decide)) (by simp only [sl_n, sl_r, sl_i, sl_l]; exact Nat.le_of_ble_eq_true rfl) ?_
  rw [show lv_args 0 [rv x0, .int x1, .int x2] = [(0, rv x0), (1, .int x1), (2, .int x2)] by simp only [la_n, la_r, la_i, la_l] <;> rfl]
  have hX1 : ((l, σ, σf, .inl (some (.int r))) : Xt).2.2.1 = σf := rfl
  have hX2 : ((l, σ, σf, .inl (some (.int r))) : Xt).2.2.2 = .inl (some (.int r)) := rfl
  unfold fX12_lays at hf
  refine g_aload_n (j := 0) dX12_lays_0 rfl rfl ?_
  obtain ⟨_, h3, hf⟩ := ob hf
  obtain ⟨σ1, v2, eσ1, hf⟩ := cb_el hf
  refine g_callV_v dX12_lays_1 (wX12_lowers _ eσ1) (okX12_lowers _ (by decide) (by decide)) (ckK_el h3) hc16 t_1919 t_1921 s_X12_lowers rfl (Nat.le_trans (cat_le _) (Nat.le_of_ble_eq_true rfl)) rfl ?_
  refine g_aload_n (j := 0) dX12_lays_4 rfl rfl ?_
  refine g_bipush (v := 6) dX12_lays_5 (by decide) ?_
  obtain ⟨_, h6, hf⟩ := ob hf
  obtain ⟨σ4, v5, eσ4, hf⟩ := cb_el hf
  refine g_callV_i dX12_lays_7 (wX12_isSmall _ eσ4) (okX12_isSmall _ (by decide) (by decide)) (ckK_el h6) hc16 t_1959 t_1961 s_X12_isSmall rfl (Nat.le_trans (cat_le _) (Nat.le_of_ble_eq_true rfl)) rfl ?_
  refine g_if_eq (tgt := 22) dX12_lays_10 (by decide) (fun c7 => ?_) (fun c7 => ?_)
  · rw [if_pos c7] at hf
    refine g_iconst (v := 0) dX12_lays_22 (by decide) ?_
    exact g_iret dX12_lays_23 rfl (by decide) hX2 hX1 hf
  · rw [if_neg c7] at hf
    refine g_aload_n (j := 0) dX12_lays_13 rfl rfl ?_
    refine g_bipush (v := 7) dX12_lays_14 (by decide) ?_
    obtain ⟨_, h10, hf⟩ := ob hf
    obtain ⟨σ8, v9, eσ8, hf⟩ := cb_el hf
    refine g_callV_i dX12_lays_16 (wX12_isSmall _ eσ8) (okX12_isSmall _ (by decide) (by decide)) (ckK_el h10) hc16 t_1959 t_1961 s_X12_isSmall rfl (Nat.le_trans (cat_le _) (Nat.le_of_ble_eq_true rfl)) rfl ?_
    refine g_if_ne (tgt := 24) dX12_lays_19 (by decide) (fun c11 => ?_) (fun c11 => ?_)
    · rw [if_neg c11] at hf
      refine g_aload_n (j := 0) dX12_lays_24 rfl rfl ?_
      obtain ⟨v12, ev12, hf⟩ := ob hf
      refine g_getF dX12_lays_25 ev12 t_1970 hin16 hc16 (by decide) rfl ?_
      refine g_iload_n (j := 1) dX12_lays_28 rfl rfl ?_
      refine g_aload_n (j := 0) dX12_lays_29 rfl rfl ?_
      obtain ⟨v13, ev13, hf⟩ := ob hf
      refine g_getF dX12_lays_30 ev13 t_1969 hin16 hc16 (by decide) rfl ?_
      refine g_bipush (v := 6) dX12_lays_33 (by decide) ?_
      obtain ⟨v14, ev14, hf⟩ := ob hf
      refine g_iald dX12_lays_35 ev14 ?_
      refine g_if_ne (tgt := 43) dX12_lays_36 (by decide) (fun c15 => ?_) (fun c15 => ?_)
      · rw [if_neg c15] at hf
        refine g_iload_n (j := 2) dX12_lays_43 rfl rfl ?_
        refine g_sub (L' := [(0, rv x0), (1, .int x1)]) [0, 1] rfl ?_
        exact bX12_lays_44 hX1 hX2 hf
      · rw [if_pos c15] at hf
        refine g_iconst (v := 0) dX12_lays_39 (by decide) ?_
        refine g_goto (tgt := 44) dX12_lays_40 (by decide) ?_
        refine g_sub (L' := [(0, rv x0), (1, .int x1)]) [0, 1] rfl ?_
        exact bX12_lays_44 hX1 hX2 hf
    · rw [if_pos c11] at hf
      refine g_iconst (v := 0) dX12_lays_22 (by decide) ?_
      exact g_iret dX12_lays_23 rfl (by decide) hX2 hX1 hf

theorem okX12_lays (M : Mt) (h1 : 6 + 1 ≤ M.2.2.2.2.1) (h2 : 8 + (4 + 11) + 210 ≤ M.2.2.2.2.2.1) : CallOk M MtX12_lays yX12_lays 2 := ⟨t_1918, h1, h2, ⟨by decide, by decide⟩, by decide +kernel, t_16⟩
abbrev MtX12_keepsWhole : Mt := (cX12_keepsWhole, 4, "ExactlySaidModel", (Option.some Jvm.ClassFile.FieldType.int), 7, 233, false)
set_option maxRecDepth 100000 in
set_option maxHeartbeats 4000000 in
theorem wX12_keepsWhole (l : Launch) {σ σf : St} {x0 : Nat} {x1 : Int32} {r : Int32} (hf : fX12_keepsWhole σ x0 x1 = some (σf, r)) : Con MtX12_keepsWhole yX12_keepsWhole l σ [rv x0, .int x1] σf (some (.int r)) := by
  refine Con.of (by decide +kernel) rfl (fun h => absurd (show false = true from h) (by decide)) (by simp only [sl_n, sl_r, sl_i, sl_l]; exact Nat.le_of_ble_eq_true rfl) ?_
  rw [show lv_args 0 [rv x0, .int x1] = [(0, rv x0), (1, .int x1)] by simp only [la_n, la_r, la_i, la_l] <;> rfl]
  have hX1 : ((l, σ, σf, .inl (some (.int r))) : Xt).2.2.1 = σf := rfl
  have hX2 : ((l, σ, σf, .inl (some (.int r))) : Xt).2.2.2 = .inl (some (.int r)) := rfl
  unfold fX12_keepsWhole at hf
  refine g_aload_n (j := 0) dX12_keepsWhole_0 rfl rfl ?_
  obtain ⟨_, h3, hf⟩ := ob hf
  obtain ⟨σ1, v2, eσ1, hf⟩ := cb_el hf
  refine g_callV_i dX12_keepsWhole_1 (wX12_newValue _ eσ1) (okX12_newValue _ (by decide) (by decide)) (ckK_el h3) hc16 t_1907 t_1909 s_X12_newValue rfl (Nat.le_trans (cat_le _) (Nat.le_of_ble_eq_true rfl)) rfl ?_
  refine g_istore_n (i := 2) (L' := [(2, .int v2), (0, rv x0), (1, .int x1)]) dX12_keepsWhole_4 rfl (Nat.le_of_ble_eq_true rfl) rfl ?_
  refine g_aload_n (j := 1) dX12_keepsWhole_5 rfl rfl ?_
  refine g_bipush (v := 6) dX12_keepsWhole_6 (by decide) ?_
  refine g_iload_n (j := 2) dX12_keepsWhole_8 rfl rfl ?_
  obtain ⟨_, h6, hf⟩ := ob hf
  obtain ⟨σ4, v5, eσ4, hf⟩ := cb_el hf
  refine g_callV_v dX12_keepsWhole_9 (wX12_puts _ eσ4) (okX12_puts _ (by decide) (by decide)) (ckK_el h6) hc16 t_1911 t_1913 s_X12_puts rfl (Nat.le_trans (cat_le _) (Nat.le_of_ble_eq_true rfl)) rfl ?_
  refine g_aload_n (j := 1) dX12_keepsWhole_12 rfl rfl ?_
  refine g_bipush (v := 7) dX12_keepsWhole_13 (by decide) ?_
  refine g_iconst (v := 1) dX12_keepsWhole_15 (by decide) ?_
  obtain ⟨_, h9, hf⟩ := ob hf
  obtain ⟨σ7, v8, eσ7, hf⟩ := cb_el hf
  refine g_callV_v dX12_keepsWhole_16 (wX12_puts _ eσ7) (okX12_puts _ (by decide) (by decide)) (ckK_el h9) hc16 t_1911 t_1913 s_X12_puts rfl (Nat.le_trans (cat_le _) (Nat.le_of_ble_eq_true rfl)) rfl ?_
  refine g_aload_n (j := 1) dX12_keepsWhole_19 rfl rfl ?_
  refine g_iload_n (j := 0) dX12_keepsWhole_20 rfl rfl ?_
  refine g_iconst (v := 1) dX12_keepsWhole_21 (by decide) ?_
  obtain ⟨_, h12, hf⟩ := ob hf
  obtain ⟨σ10, v11, eσ10, hf⟩ := cb_el hf
  refine g_callV_i dX12_keepsWhole_22 (wX12_lays _ eσ10) (okX12_lays _ (by decide) (by decide)) (ckK_el h12) hc16 t_1915 t_1917 s_X12_lays rfl (Nat.le_trans (cat_le _) (Nat.le_of_ble_eq_true rfl)) rfl ?_
  refine g_istore_n (i := 3) (L' := [(3, .int v11), (2, .int v2), (0, rv x0), (1, .int x1)]) dX12_keepsWhole_25 rfl (Nat.le_of_ble_eq_true rfl) rfl ?_
  refine g_iload_n (j := 0) dX12_keepsWhole_26 rfl rfl ?_
  refine g_if_eq (tgt := 34) dX12_keepsWhole_27 (by decide) (fun c13 => ?_) (fun c13 => ?_)
  · rw [if_pos c13] at hf
    refine g_iconst (v := (-1)) dX12_keepsWhole_34 (by decide) ?_
    exact g_iret dX12_keepsWhole_35 rfl rfl hX2 hX1 hf
  · rw [if_neg c13] at hf
    refine g_iload_n (j := 1) dX12_keepsWhole_30 rfl rfl ?_
    refine g_goto (tgt := 35) dX12_keepsWhole_31 (by decide) ?_
    exact g_iret dX12_keepsWhole_35 rfl rfl hX2 hX1 hf

theorem okX12_keepsWhole (M : Mt) (h1 : 7 + 1 ≤ M.2.2.2.2.1) (h2 : 8 + (4 + 11) + 233 ≤ M.2.2.2.2.2.1) : CallOk M MtX12_keepsWhole yX12_keepsWhole 1 := ⟨t_1906, h1, h2, ⟨by decide, by decide⟩, by decide +kernel, t_16⟩
abbrev MtX12_init : Mt := (cX12_init, 2, "ExactlySaidModel", none, 8, 256, true)
set_option maxRecDepth 100000 in
set_option maxHeartbeats 4000000 in
theorem bX12_init_425 {X : Xt} {σf : St} {r : Unit} (hX1 : X.2.2.1 = σf) (hX2 : X.2.2.2 = .inl (none)) : ∀ (n : Nat) (σ : St) (x0 : Nat) (x1 : Int32), fX12_init_425 n σ x0 x1 = some (σf, r) → G MtX12_init X σ 425 [(0, rv x0), (1, .int x1)] [] := by
  intro n
  induction n with
  | zero => intro σ x0 x1 hf; cases hf
  | succ n ih =>
    intro σ x0 x1 hf
    rw [fX12_init_425] at hf
    refine g_iload_n (j := 1) dX12_init_425 rfl rfl ?_
    refine g_bipush (v := 10) dX12_init_426 (by decide) ?_
    refine g_icmp_ge (tgt := 447) dX12_init_428 (by decide) (fun c1 => ?_) (fun c1 => ?_)
    · rw [if_pos c1] at hf
      exact g_vret dX12_init_447 rfl hX2 hX1 hf
    · rw [if_neg c1] at hf
      refine g_aload_n (j := 0) dX12_init_431 rfl rfl ?_
      obtain ⟨v2, ev2, hf⟩ := ob hf
      refine g_getF dX12_init_432 ev2 t_2041 hin16 hc16 (by decide) rfl ?_
      refine g_iload_n (j := 1) dX12_init_435 rfl rfl ?_
      refine g_aload_n (j := 0) dX12_init_436 rfl rfl ?_
      obtain ⟨v3, ev3, hf⟩ := ob hf
      refine g_getI dX12_init_437 ev3 t_1973 hin16 hc16 (by decide) rfl ?_
      obtain ⟨σ4, eσ4, hf⟩ := ob hf
      refine g_iast dX12_init_440 eσ4 ?_
      obtain ⟨v5, ev5, hf⟩ := nm_el hf
      refine g_iinc (L' := [(1, .int v5), (0, rv x0)]) (j := 1) (v := v5) dX12_init_441 rfl (by rw [ev5]; rfl) (Nat.le_of_ble_eq_true rfl) (by simp [rv_cat]) ?_
      refine g_goto (tgt := 425) dX12_init_444 (by decide) ?_
      refine g_sub (L' := [(0, rv x0), (1, .int v5)]) [1, 0] rfl ?_
      exact ih _ _ _ hf

set_option maxRecDepth 100000 in
set_option maxHeartbeats 4000000 in
theorem wX12_init (l : Launch) {σ σf : St} {x0 : Nat} {r : Unit} (hf : fX12_init σ x0 = some (σf, r)) : Con MtX12_init yX12_init l σ [rv x0] σf (none) := by
  refine Con.of (by decide +kernel) rfl (fun _ => rfl) (by simp only [sl_n, sl_r, sl_i, sl_l]; exact Nat.le_of_ble_eq_true rfl) ?_
  rw [show lv_args 0 [rv x0] = [(0, rv x0)] by simp only [la_n, la_r, la_i, la_l] <;> rfl]
  have hX1 : ((l, σ, σf, .inl (none)) : Xt).2.2.1 = σf := rfl
  have hX2 : ((l, σ, σf, .inl (none)) : Xt).2.2.2 = .inl (none) := rfl
  unfold fX12_init at hf
  refine g_aload_n (j := 0) dX12_init_0 rfl rfl ?_
  obtain ⟨_, h1, hf⟩ := ob hf
  refine g_objInit dX12_init_1 (of_decide_eq_true (ckP_el h1)) t_1901 t_42 t_43 (by decide) (by decide) (Nat.le_of_ble_eq_true rfl) ?_
  refine g_aload_n (j := 0) dX12_init_4 rfl rfl ?_
  refine g_sipush (v := 15000) dX12_init_5 (by decide) ?_
  obtain ⟨σ2, eσ2, hf⟩ := ob hf
  obtain ⟨a3, ea3, hf⟩ := nm_el hf
  refine g_newa9 dX12_init_8 eσ2 (by decide) rfl (by decide) rfl t_66 ea3 ?_
  obtain ⟨σ4, eσ4, hf⟩ := ob hf
  refine g_putF dX12_init_10 eσ4 (Or.inl t_1968) hin16 hc16 (by decide) hty16 hnm16 (Or.inr ⟨rfl, rfl, t_1968⟩) rfl ?_
  refine g_aload_n (j := 0) dX12_init_13 rfl rfl ?_
  refine g_bipush (v := 15) dX12_init_14 (by decide) ?_
  obtain ⟨σ5, eσ5, hf⟩ := ob hf
  obtain ⟨a6, ea6, hf⟩ := nm_el hf
  refine g_newa9 dX12_init_16 eσ5 (by decide) rfl (by decide) rfl t_66 ea6 ?_
  obtain ⟨σ7, eσ7, hf⟩ := ob hf
  refine g_putF dX12_init_18 eσ7 (Or.inl t_1969) hin16 hc16 (by decide) hty16 hnm16 (Or.inr ⟨rfl, rfl, t_1969⟩) rfl ?_
  refine g_aload_n (j := 0) dX12_init_21 rfl rfl ?_
  refine g_sipush (v := 12600) dX12_init_22 (by decide) ?_
  obtain ⟨σ8, eσ8, hf⟩ := ob hf
  obtain ⟨a9, ea9, hf⟩ := nm_el hf
  refine g_newa9 dX12_init_25 eσ8 (by decide) rfl (by decide) rfl t_66 ea9 ?_
  obtain ⟨σ10, eσ10, hf⟩ := ob hf
  refine g_putF dX12_init_27 eσ10 (Or.inl t_1970) hin16 hc16 (by decide) hty16 hnm16 (Or.inr ⟨rfl, rfl, t_1970⟩) rfl ?_
  refine g_aload_n (j := 0) dX12_init_30 rfl rfl ?_
  refine g_ldc (v := 201600) dX12_init_31 t_1902 ?_
  obtain ⟨σ11, eσ11, hf⟩ := ob hf
  obtain ⟨a12, ea12, hf⟩ := nm_el hf
  refine g_newa9 dX12_init_33 eσ11 (by decide) rfl (by decide) rfl t_66 ea12 ?_
  obtain ⟨σ13, eσ13, hf⟩ := ob hf
  refine g_putF dX12_init_35 eσ13 (Or.inl t_1971) hin16 hc16 (by decide) hty16 hnm16 (Or.inr ⟨rfl, rfl, t_1971⟩) rfl ?_
  refine g_aload_n (j := 0) dX12_init_38 rfl rfl ?_
  refine g_sipush (v := 200) dX12_init_39 (by decide) ?_
  obtain ⟨σ14, eσ14, hf⟩ := ob hf
  obtain ⟨a15, ea15, hf⟩ := nm_el hf
  refine g_newa9 dX12_init_42 eσ14 (by decide) rfl (by decide) rfl t_66 ea15 ?_
  obtain ⟨σ16, eσ16, hf⟩ := ob hf
  refine g_putF dX12_init_44 eσ16 (Or.inl t_1974) hin16 hc16 (by decide) hty16 hnm16 (Or.inr ⟨rfl, rfl, t_1974⟩) rfl ?_
  refine g_aload_n (j := 0) dX12_init_47 rfl rfl ?_
  refine g_iconst (v := (-1)) dX12_init_48 (by decide) ?_
  obtain ⟨σ17, eσ17, hf⟩ := ob hf
  refine g_putI dX12_init_49 eσ17 (Or.inl t_1976) hin16 hc16 (by decide) hty16 hnm16 (Or.inl rfl) rfl rfl rfl ?_
  refine g_aload_n (j := 0) dX12_init_52 rfl rfl ?_
  refine g_sipush (v := 12000) dX12_init_53 (by decide) ?_
  obtain ⟨σ18, eσ18, hf⟩ := ob hf
  obtain ⟨a19, ea19, hf⟩ := nm_el hf
  refine g_newa9 dX12_init_56 eσ18 (by decide) rfl (by decide) rfl t_66 ea19 ?_
  obtain ⟨σ20, eσ20, hf⟩ := ob hf
  refine g_putF dX12_init_58 eσ20 (Or.inl t_1984) hin16 hc16 (by decide) hty16 hnm16 (Or.inr ⟨rfl, rfl, t_1984⟩) rfl ?_
  refine g_aload_n (j := 0) dX12_init_61 rfl rfl ?_
  refine g_sipush (v := 12000) dX12_init_62 (by decide) ?_
  obtain ⟨σ21, eσ21, hf⟩ := ob hf
  obtain ⟨a22, ea22, hf⟩ := nm_el hf
  refine g_newa9 dX12_init_65 eσ21 (by decide) rfl (by decide) rfl t_66 ea22 ?_
  obtain ⟨σ23, eσ23, hf⟩ := ob hf
  refine g_putF dX12_init_67 eσ23 (Or.inl t_1985) hin16 hc16 (by decide) hty16 hnm16 (Or.inr ⟨rfl, rfl, t_1985⟩) rfl ?_
  refine g_aload_n (j := 0) dX12_init_70 rfl rfl ?_
  refine g_sipush (v := 12000) dX12_init_71 (by decide) ?_
  obtain ⟨σ24, eσ24, hf⟩ := ob hf
  obtain ⟨a25, ea25, hf⟩ := nm_el hf
  refine g_newa9 dX12_init_74 eσ24 (by decide) rfl (by decide) rfl t_66 ea25 ?_
  obtain ⟨σ26, eσ26, hf⟩ := ob hf
  refine g_putF dX12_init_76 eσ26 (Or.inl t_1986) hin16 hc16 (by decide) hty16 hnm16 (Or.inr ⟨rfl, rfl, t_1986⟩) rfl ?_
  refine g_aload_n (j := 0) dX12_init_79 rfl rfl ?_
  refine g_sipush (v := 12000) dX12_init_80 (by decide) ?_
  obtain ⟨σ27, eσ27, hf⟩ := ob hf
  obtain ⟨a28, ea28, hf⟩ := nm_el hf
  refine g_newa9 dX12_init_83 eσ27 (by decide) rfl (by decide) rfl t_66 ea28 ?_
  obtain ⟨σ29, eσ29, hf⟩ := ob hf
  refine g_putF dX12_init_85 eσ29 (Or.inl t_1987) hin16 hc16 (by decide) hty16 hnm16 (Or.inr ⟨rfl, rfl, t_1987⟩) rfl ?_
  refine g_aload_n (j := 0) dX12_init_88 rfl rfl ?_
  refine g_sipush (v := 600) dX12_init_89 (by decide) ?_
  obtain ⟨σ30, eσ30, hf⟩ := ob hf
  obtain ⟨a31, ea31, hf⟩ := nm_el hf
  refine g_newa9 dX12_init_92 eσ30 (by decide) rfl (by decide) rfl t_66 ea31 ?_
  obtain ⟨σ32, eσ32, hf⟩ := ob hf
  refine g_putF dX12_init_94 eσ32 (Or.inl t_1989) hin16 hc16 (by decide) hty16 hnm16 (Or.inr ⟨rfl, rfl, t_1989⟩) rfl ?_
  refine g_aload_n (j := 0) dX12_init_97 rfl rfl ?_
  refine g_sipush (v := 600) dX12_init_98 (by decide) ?_
  obtain ⟨σ33, eσ33, hf⟩ := ob hf
  obtain ⟨a34, ea34, hf⟩ := nm_el hf
  refine g_newa9 dX12_init_101 eσ33 (by decide) rfl (by decide) rfl t_66 ea34 ?_
  obtain ⟨σ35, eσ35, hf⟩ := ob hf
  refine g_putF dX12_init_103 eσ35 (Or.inl t_1990) hin16 hc16 (by decide) hty16 hnm16 (Or.inr ⟨rfl, rfl, t_1990⟩) rfl ?_
  refine g_aload_n (j := 0) dX12_init_106 rfl rfl ?_
  refine g_sipush (v := 600) dX12_init_107 (by decide) ?_
  obtain ⟨σ36, eσ36, hf⟩ := ob hf
  obtain ⟨a37, ea37, hf⟩ := nm_el hf
  refine g_newa9 dX12_init_110 eσ36 (by decide) rfl (by decide) rfl t_66 ea37 ?_
  obtain ⟨σ38, eσ38, hf⟩ := ob hf
  refine g_putF dX12_init_112 eσ38 (Or.inl t_1991) hin16 hc16 (by decide) hty16 hnm16 (Or.inr ⟨rfl, rfl, t_1991⟩) rfl ?_
  refine g_aload_n (j := 0) dX12_init_115 rfl rfl ?_
  refine g_sipush (v := 210) dX12_init_116 (by decide) ?_
  obtain ⟨σ39, eσ39, hf⟩ := ob hf
  obtain ⟨a40, ea40, hf⟩ := nm_el hf
  refine g_newa9 dX12_init_119 eσ39 (by decide) rfl (by decide) rfl t_66 ea40 ?_
  obtain ⟨σ41, eσ41, hf⟩ := ob hf
  refine g_putF dX12_init_121 eσ41 (Or.inl t_1993) hin16 hc16 (by decide) hty16 hnm16 (Or.inr ⟨rfl, rfl, t_1993⟩) rfl ?_
  refine g_aload_n (j := 0) dX12_init_124 rfl rfl ?_
  refine g_sipush (v := 210) dX12_init_125 (by decide) ?_
  obtain ⟨σ42, eσ42, hf⟩ := ob hf
  obtain ⟨a43, ea43, hf⟩ := nm_el hf
  refine g_newa9 dX12_init_128 eσ42 (by decide) rfl (by decide) rfl t_66 ea43 ?_
  obtain ⟨σ44, eσ44, hf⟩ := ob hf
  refine g_putF dX12_init_130 eσ44 (Or.inl t_1994) hin16 hc16 (by decide) hty16 hnm16 (Or.inr ⟨rfl, rfl, t_1994⟩) rfl ?_
  refine g_aload_n (j := 0) dX12_init_133 rfl rfl ?_
  refine g_sipush (v := 210) dX12_init_134 (by decide) ?_
  obtain ⟨σ45, eσ45, hf⟩ := ob hf
  obtain ⟨a46, ea46, hf⟩ := nm_el hf
  refine g_newa9 dX12_init_137 eσ45 (by decide) rfl (by decide) rfl t_66 ea46 ?_
  obtain ⟨σ47, eσ47, hf⟩ := ob hf
  refine g_putF dX12_init_139 eσ47 (Or.inl t_1995) hin16 hc16 (by decide) hty16 hnm16 (Or.inr ⟨rfl, rfl, t_1995⟩) rfl ?_
  refine g_aload_n (j := 0) dX12_init_142 rfl rfl ?_
  refine g_sipush (v := 210) dX12_init_143 (by decide) ?_
  obtain ⟨σ48, eσ48, hf⟩ := ob hf
  obtain ⟨a49, ea49, hf⟩ := nm_el hf
  refine g_newa9 dX12_init_146 eσ48 (by decide) rfl (by decide) rfl t_66 ea49 ?_
  obtain ⟨σ50, eσ50, hf⟩ := ob hf
  refine g_putF dX12_init_148 eσ50 (Or.inl t_1996) hin16 hc16 (by decide) hty16 hnm16 (Or.inr ⟨rfl, rfl, t_1996⟩) rfl ?_
  refine g_aload_n (j := 0) dX12_init_151 rfl rfl ?_
  refine g_iconst (v := 4) dX12_init_152 (by decide) ?_
  obtain ⟨σ51, eσ51, hf⟩ := ob hf
  obtain ⟨a52, ea52, hf⟩ := nm_el hf
  refine g_newa9 dX12_init_153 eσ51 (by decide) rfl (by decide) rfl t_66 ea52 ?_
  obtain ⟨σ53, eσ53, hf⟩ := ob hf
  refine g_putF dX12_init_155 eσ53 (Or.inl t_2003) hin16 hc16 (by decide) hty16 hnm16 (Or.inr ⟨rfl, rfl, t_2003⟩) rfl ?_
  refine g_aload_n (j := 0) dX12_init_158 rfl rfl ?_
  refine g_bipush (v := 30) dX12_init_159 (by decide) ?_
  obtain ⟨σ54, eσ54, hf⟩ := ob hf
  obtain ⟨a55, ea55, hf⟩ := nm_el hf
  refine g_newa9 dX12_init_161 eσ54 (by decide) rfl (by decide) rfl t_66 ea55 ?_
  obtain ⟨σ56, eσ56, hf⟩ := ob hf
  refine g_putF dX12_init_163 eσ56 (Or.inl t_2004) hin16 hc16 (by decide) hty16 hnm16 (Or.inr ⟨rfl, rfl, t_2004⟩) rfl ?_
  refine g_aload_n (j := 0) dX12_init_166 rfl rfl ?_
  refine g_bipush (v := 30) dX12_init_167 (by decide) ?_
  obtain ⟨σ57, eσ57, hf⟩ := ob hf
  obtain ⟨a58, ea58, hf⟩ := nm_el hf
  refine g_newa9 dX12_init_169 eσ57 (by decide) rfl (by decide) rfl t_66 ea58 ?_
  obtain ⟨σ59, eσ59, hf⟩ := ob hf
  refine g_putF dX12_init_171 eσ59 (Or.inl t_2005) hin16 hc16 (by decide) hty16 hnm16 (Or.inr ⟨rfl, rfl, t_2005⟩) rfl ?_
  refine g_aload_n (j := 0) dX12_init_174 rfl rfl ?_
  refine g_bipush (v := 30) dX12_init_175 (by decide) ?_
  obtain ⟨σ60, eσ60, hf⟩ := ob hf
  obtain ⟨a61, ea61, hf⟩ := nm_el hf
  refine g_newa9 dX12_init_177 eσ60 (by decide) rfl (by decide) rfl t_66 ea61 ?_
  obtain ⟨σ62, eσ62, hf⟩ := ob hf
  refine g_putF dX12_init_179 eσ62 (Or.inl t_2006) hin16 hc16 (by decide) hty16 hnm16 (Or.inr ⟨rfl, rfl, t_2006⟩) rfl ?_
  refine g_aload_n (j := 0) dX12_init_182 rfl rfl ?_
  refine g_bipush (v := 30) dX12_init_183 (by decide) ?_
  obtain ⟨σ63, eσ63, hf⟩ := ob hf
  obtain ⟨a64, ea64, hf⟩ := nm_el hf
  refine g_newa9 dX12_init_185 eσ63 (by decide) rfl (by decide) rfl t_2217 ea64 ?_
  obtain ⟨σ65, eσ65, hf⟩ := ob hf
  refine g_putF dX12_init_187 eσ65 (Or.inl t_2009) hin16 hc16 (by decide) hty16 hnm16 (Or.inr ⟨rfl, rfl, t_2009⟩) rfl ?_
  refine g_aload_n (j := 0) dX12_init_190 rfl rfl ?_
  refine g_iconst (v := (-1)) dX12_init_191 (by decide) ?_
  obtain ⟨σ66, eσ66, hf⟩ := ob hf
  refine g_putI dX12_init_192 eσ66 (Or.inl t_2010) hin16 hc16 (by decide) hty16 hnm16 (Or.inl rfl) rfl rfl rfl ?_
  refine g_aload_n (j := 0) dX12_init_195 rfl rfl ?_
  refine g_iconst (v := (-1)) dX12_init_196 (by decide) ?_
  obtain ⟨σ67, eσ67, hf⟩ := ob hf
  refine g_putI dX12_init_197 eσ67 (Or.inl t_2011) hin16 hc16 (by decide) hty16 hnm16 (Or.inl rfl) rfl rfl rfl ?_
  refine g_aload_n (j := 0) dX12_init_200 rfl rfl ?_
  refine g_iconst (v := (-1)) dX12_init_201 (by decide) ?_
  obtain ⟨σ68, eσ68, hf⟩ := ob hf
  refine g_putI dX12_init_202 eσ68 (Or.inl t_2012) hin16 hc16 (by decide) hty16 hnm16 (Or.inl rfl) rfl rfl rfl ?_
  refine g_aload_n (j := 0) dX12_init_205 rfl rfl ?_
  refine g_sipush (v := 2000) dX12_init_206 (by decide) ?_
  obtain ⟨σ69, eσ69, hf⟩ := ob hf
  obtain ⟨a70, ea70, hf⟩ := nm_el hf
  refine g_newa9 dX12_init_209 eσ69 (by decide) rfl (by decide) rfl t_66 ea70 ?_
  obtain ⟨σ71, eσ71, hf⟩ := ob hf
  refine g_putF dX12_init_211 eσ71 (Or.inl t_2014) hin16 hc16 (by decide) hty16 hnm16 (Or.inr ⟨rfl, rfl, t_2014⟩) rfl ?_
  refine g_aload_n (j := 0) dX12_init_214 rfl rfl ?_
  refine g_sipush (v := 200) dX12_init_215 (by decide) ?_
  obtain ⟨σ72, eσ72, hf⟩ := ob hf
  obtain ⟨a73, ea73, hf⟩ := nm_el hf
  refine g_newa9 dX12_init_218 eσ72 (by decide) rfl (by decide) rfl t_66 ea73 ?_
  obtain ⟨σ74, eσ74, hf⟩ := ob hf
  refine g_putF dX12_init_220 eσ74 (Or.inl t_2015) hin16 hc16 (by decide) hty16 hnm16 (Or.inr ⟨rfl, rfl, t_2015⟩) rfl ?_
  refine g_aload_n (j := 0) dX12_init_223 rfl rfl ?_
  refine g_sipush (v := 200) dX12_init_224 (by decide) ?_
  obtain ⟨σ75, eσ75, hf⟩ := ob hf
  obtain ⟨a76, ea76, hf⟩ := nm_el hf
  refine g_newa9 dX12_init_227 eσ75 (by decide) rfl (by decide) rfl t_66 ea76 ?_
  obtain ⟨σ77, eσ77, hf⟩ := ob hf
  refine g_putF dX12_init_229 eσ77 (Or.inl t_2016) hin16 hc16 (by decide) hty16 hnm16 (Or.inr ⟨rfl, rfl, t_2016⟩) rfl ?_
  refine g_aload_n (j := 0) dX12_init_232 rfl rfl ?_
  refine g_sipush (v := 200) dX12_init_233 (by decide) ?_
  obtain ⟨σ78, eσ78, hf⟩ := ob hf
  obtain ⟨a79, ea79, hf⟩ := nm_el hf
  refine g_newa9 dX12_init_236 eσ78 (by decide) rfl (by decide) rfl t_66 ea79 ?_
  obtain ⟨σ80, eσ80, hf⟩ := ob hf
  refine g_putF dX12_init_238 eσ80 (Or.inl t_2017) hin16 hc16 (by decide) hty16 hnm16 (Or.inr ⟨rfl, rfl, t_2017⟩) rfl ?_
  refine g_aload_n (j := 0) dX12_init_241 rfl rfl ?_
  refine g_bipush (v := 40) dX12_init_242 (by decide) ?_
  obtain ⟨σ81, eσ81, hf⟩ := ob hf
  obtain ⟨a82, ea82, hf⟩ := nm_el hf
  refine g_newa9 dX12_init_244 eσ81 (by decide) rfl (by decide) rfl t_66 ea82 ?_
  obtain ⟨σ83, eσ83, hf⟩ := ob hf
  refine g_putF dX12_init_246 eσ83 (Or.inl t_2018) hin16 hc16 (by decide) hty16 hnm16 (Or.inr ⟨rfl, rfl, t_2018⟩) rfl ?_
  refine g_aload_n (j := 0) dX12_init_249 rfl rfl ?_
  refine g_bipush (v := 40) dX12_init_250 (by decide) ?_
  obtain ⟨σ84, eσ84, hf⟩ := ob hf
  obtain ⟨a85, ea85, hf⟩ := nm_el hf
  refine g_newa9 dX12_init_252 eσ84 (by decide) rfl (by decide) rfl t_66 ea85 ?_
  obtain ⟨σ86, eσ86, hf⟩ := ob hf
  refine g_putF dX12_init_254 eσ86 (Or.inl t_2019) hin16 hc16 (by decide) hty16 hnm16 (Or.inr ⟨rfl, rfl, t_2019⟩) rfl ?_
  refine g_aload_n (j := 0) dX12_init_257 rfl rfl ?_
  refine g_bipush (v := 40) dX12_init_258 (by decide) ?_
  obtain ⟨σ87, eσ87, hf⟩ := ob hf
  obtain ⟨a88, ea88, hf⟩ := nm_el hf
  refine g_newa9 dX12_init_260 eσ87 (by decide) rfl (by decide) rfl t_66 ea88 ?_
  obtain ⟨σ89, eσ89, hf⟩ := ob hf
  refine g_putF dX12_init_262 eσ89 (Or.inl t_2020) hin16 hc16 (by decide) hty16 hnm16 (Or.inr ⟨rfl, rfl, t_2020⟩) rfl ?_
  refine g_aload_n (j := 0) dX12_init_265 rfl rfl ?_
  refine g_bipush (v := 40) dX12_init_266 (by decide) ?_
  obtain ⟨σ90, eσ90, hf⟩ := ob hf
  obtain ⟨a91, ea91, hf⟩ := nm_el hf
  refine g_newa9 dX12_init_268 eσ90 (by decide) rfl (by decide) rfl t_66 ea91 ?_
  obtain ⟨σ92, eσ92, hf⟩ := ob hf
  refine g_putF dX12_init_270 eσ92 (Or.inl t_2021) hin16 hc16 (by decide) hty16 hnm16 (Or.inr ⟨rfl, rfl, t_2021⟩) rfl ?_
  refine g_aload_n (j := 0) dX12_init_273 rfl rfl ?_
  refine g_bipush (v := 30) dX12_init_274 (by decide) ?_
  obtain ⟨σ93, eσ93, hf⟩ := ob hf
  obtain ⟨a94, ea94, hf⟩ := nm_el hf
  refine g_newa9 dX12_init_276 eσ93 (by decide) rfl (by decide) rfl t_66 ea94 ?_
  obtain ⟨σ95, eσ95, hf⟩ := ob hf
  refine g_putF dX12_init_278 eσ95 (Or.inl t_2025) hin16 hc16 (by decide) hty16 hnm16 (Or.inr ⟨rfl, rfl, t_2025⟩) rfl ?_
  refine g_aload_n (j := 0) dX12_init_281 rfl rfl ?_
  refine g_bipush (v := 30) dX12_init_282 (by decide) ?_
  obtain ⟨σ96, eσ96, hf⟩ := ob hf
  obtain ⟨a97, ea97, hf⟩ := nm_el hf
  refine g_newa9 dX12_init_284 eσ96 (by decide) rfl (by decide) rfl t_66 ea97 ?_
  obtain ⟨σ98, eσ98, hf⟩ := ob hf
  refine g_putF dX12_init_286 eσ98 (Or.inl t_2026) hin16 hc16 (by decide) hty16 hnm16 (Or.inr ⟨rfl, rfl, t_2026⟩) rfl ?_
  refine g_aload_n (j := 0) dX12_init_289 rfl rfl ?_
  refine g_bipush (v := 30) dX12_init_290 (by decide) ?_
  obtain ⟨σ99, eσ99, hf⟩ := ob hf
  obtain ⟨a100, ea100, hf⟩ := nm_el hf
  refine g_newa9 dX12_init_292 eσ99 (by decide) rfl (by decide) rfl t_66 ea100 ?_
  obtain ⟨σ101, eσ101, hf⟩ := ob hf
  refine g_putF dX12_init_294 eσ101 (Or.inl t_2027) hin16 hc16 (by decide) hty16 hnm16 (Or.inr ⟨rfl, rfl, t_2027⟩) rfl ?_
  refine g_aload_n (j := 0) dX12_init_297 rfl rfl ?_
  refine g_bipush (v := 20) dX12_init_298 (by decide) ?_
  obtain ⟨σ102, eσ102, hf⟩ := ob hf
  obtain ⟨a103, ea103, hf⟩ := nm_el hf
  refine g_newa9 dX12_init_300 eσ102 (by decide) rfl (by decide) rfl t_2217 ea103 ?_
  obtain ⟨σ104, eσ104, hf⟩ := ob hf
  refine g_putF dX12_init_302 eσ104 (Or.inl t_2030) hin16 hc16 (by decide) hty16 hnm16 (Or.inr ⟨rfl, rfl, t_2030⟩) rfl ?_
  refine g_aload_n (j := 0) dX12_init_305 rfl rfl ?_
  refine g_sipush (v := 200) dX12_init_306 (by decide) ?_
  obtain ⟨σ105, eσ105, hf⟩ := ob hf
  obtain ⟨a106, ea106, hf⟩ := nm_el hf
  refine g_newa9 dX12_init_309 eσ105 (by decide) rfl (by decide) rfl t_66 ea106 ?_
  obtain ⟨σ107, eσ107, hf⟩ := ob hf
  refine g_putF dX12_init_311 eσ107 (Or.inl t_2031) hin16 hc16 (by decide) hty16 hnm16 (Or.inr ⟨rfl, rfl, t_2031⟩) rfl ?_
  refine g_aload_n (j := 0) dX12_init_314 rfl rfl ?_
  refine g_bipush (v := 30) dX12_init_315 (by decide) ?_
  obtain ⟨σ108, eσ108, hf⟩ := ob hf
  obtain ⟨a109, ea109, hf⟩ := nm_el hf
  refine g_newa9 dX12_init_317 eσ108 (by decide) rfl (by decide) rfl t_66 ea109 ?_
  obtain ⟨σ110, eσ110, hf⟩ := ob hf
  refine g_putF dX12_init_319 eσ110 (Or.inl t_2033) hin16 hc16 (by decide) hty16 hnm16 (Or.inr ⟨rfl, rfl, t_2033⟩) rfl ?_
  refine g_aload_n (j := 0) dX12_init_322 rfl rfl ?_
  refine g_sipush (v := 150) dX12_init_323 (by decide) ?_
  obtain ⟨σ111, eσ111, hf⟩ := ob hf
  obtain ⟨a112, ea112, hf⟩ := nm_el hf
  refine g_newa9 dX12_init_326 eσ111 (by decide) rfl (by decide) rfl t_66 ea112 ?_
  obtain ⟨σ113, eσ113, hf⟩ := ob hf
  refine g_putF dX12_init_328 eσ113 (Or.inl t_2034) hin16 hc16 (by decide) hty16 hnm16 (Or.inr ⟨rfl, rfl, t_2034⟩) rfl ?_
  refine g_aload_n (j := 0) dX12_init_331 rfl rfl ?_
  refine g_iconst (v := 3) dX12_init_332 (by decide) ?_
  obtain ⟨σ114, eσ114, hf⟩ := ob hf
  obtain ⟨a115, ea115, hf⟩ := nm_el hf
  refine g_newa9 dX12_init_333 eσ114 (by decide) rfl (by decide) rfl t_66 ea115 ?_
  obtain ⟨σ116, eσ116, hf⟩ := ob hf
  refine g_putF dX12_init_335 eσ116 (Or.inl t_2035) hin16 hc16 (by decide) hty16 hnm16 (Or.inr ⟨rfl, rfl, t_2035⟩) rfl ?_
  refine g_aload_n (j := 0) dX12_init_338 rfl rfl ?_
  refine g_sipush (v := 252) dX12_init_339 (by decide) ?_
  obtain ⟨σ117, eσ117, hf⟩ := ob hf
  obtain ⟨a118, ea118, hf⟩ := nm_el hf
  refine g_newa9 dX12_init_342 eσ117 (by decide) rfl (by decide) rfl t_66 ea118 ?_
  obtain ⟨σ119, eσ119, hf⟩ := ob hf
  refine g_putF dX12_init_344 eσ119 (Or.inl t_2036) hin16 hc16 (by decide) hty16 hnm16 (Or.inr ⟨rfl, rfl, t_2036⟩) rfl ?_
  refine g_aload_n (j := 0) dX12_init_347 rfl rfl ?_
  refine g_sipush (v := 5040) dX12_init_348 (by decide) ?_
  obtain ⟨σ120, eσ120, hf⟩ := ob hf
  obtain ⟨a121, ea121, hf⟩ := nm_el hf
  refine g_newa9 dX12_init_351 eσ120 (by decide) rfl (by decide) rfl t_66 ea121 ?_
  obtain ⟨σ122, eσ122, hf⟩ := ob hf
  refine g_putF dX12_init_353 eσ122 (Or.inl t_2037) hin16 hc16 (by decide) hty16 hnm16 (Or.inr ⟨rfl, rfl, t_2037⟩) rfl ?_
  refine g_aload_n (j := 0) dX12_init_356 rfl rfl ?_
  refine g_sipush (v := 5040) dX12_init_357 (by decide) ?_
  obtain ⟨σ123, eσ123, hf⟩ := ob hf
  obtain ⟨a124, ea124, hf⟩ := nm_el hf
  refine g_newa9 dX12_init_360 eσ123 (by decide) rfl (by decide) rfl t_66 ea124 ?_
  obtain ⟨σ125, eσ125, hf⟩ := ob hf
  refine g_putF dX12_init_362 eσ125 (Or.inl t_2038) hin16 hc16 (by decide) hty16 hnm16 (Or.inr ⟨rfl, rfl, t_2038⟩) rfl ?_
  refine g_aload_n (j := 0) dX12_init_365 rfl rfl ?_
  refine g_bipush (v := 10) dX12_init_366 (by decide) ?_
  obtain ⟨σ126, eσ126, hf⟩ := ob hf
  obtain ⟨a127, ea127, hf⟩ := nm_el hf
  refine g_newa9 dX12_init_368 eσ126 (by decide) rfl (by decide) rfl t_66 ea127 ?_
  obtain ⟨σ128, eσ128, hf⟩ := ob hf
  refine g_putF dX12_init_370 eσ128 (Or.inl t_2041) hin16 hc16 (by decide) hty16 hnm16 (Or.inr ⟨rfl, rfl, t_2041⟩) rfl ?_
  refine g_aload_n (j := 0) dX12_init_373 rfl rfl ?_
  refine g_sipush (v := 1200) dX12_init_374 (by decide) ?_
  obtain ⟨σ129, eσ129, hf⟩ := ob hf
  obtain ⟨a130, ea130, hf⟩ := nm_el hf
  refine g_newa9 dX12_init_377 eσ129 (by decide) rfl (by decide) rfl t_66 ea130 ?_
  obtain ⟨σ131, eσ131, hf⟩ := ob hf
  refine g_putF dX12_init_379 eσ131 (Or.inl t_2042) hin16 hc16 (by decide) hty16 hnm16 (Or.inr ⟨rfl, rfl, t_2042⟩) rfl ?_
  refine g_aload_n (j := 0) dX12_init_382 rfl rfl ?_
  refine g_sipush (v := 300) dX12_init_383 (by decide) ?_
  obtain ⟨σ132, eσ132, hf⟩ := ob hf
  obtain ⟨a133, ea133, hf⟩ := nm_el hf
  refine g_newa9 dX12_init_386 eσ132 (by decide) rfl (by decide) rfl t_66 ea133 ?_
  obtain ⟨σ134, eσ134, hf⟩ := ob hf
  refine g_putF dX12_init_388 eσ134 (Or.inl t_2043) hin16 hc16 (by decide) hty16 hnm16 (Or.inr ⟨rfl, rfl, t_2043⟩) rfl ?_
  refine g_aload_n (j := 0) dX12_init_391 rfl rfl ?_
  refine g_bipush (v := 8) dX12_init_392 (by decide) ?_
  obtain ⟨σ135, eσ135, hf⟩ := ob hf
  obtain ⟨a136, ea136, hf⟩ := nm_el hf
  refine g_newa9 dX12_init_394 eσ135 (by decide) rfl (by decide) rfl t_66 ea136 ?_
  obtain ⟨σ137, eσ137, hf⟩ := ob hf
  refine g_putF dX12_init_396 eσ137 (Or.inl t_2049) hin16 hc16 (by decide) hty16 hnm16 (Or.inr ⟨rfl, rfl, t_2049⟩) rfl ?_
  refine g_aload_n (j := 0) dX12_init_399 rfl rfl ?_
  refine g_sipush (v := 600) dX12_init_400 (by decide) ?_
  obtain ⟨σ138, eσ138, hf⟩ := ob hf
  refine g_putI dX12_init_403 eσ138 (Or.inl t_1972) hin16 hc16 (by decide) hty16 hnm16 (Or.inl rfl) rfl rfl rfl ?_
  refine g_aload_n (j := 0) dX12_init_406 rfl rfl ?_
  refine g_aload_n (j := 0) dX12_init_407 rfl rfl ?_
  refine g_iconst (v := 0) dX12_init_408 (by decide) ?_
  obtain ⟨_, h141, hf⟩ := ob hf
  obtain ⟨σ139, v140, eσ139, hf⟩ := cb_el hf
  refine g_callV_i dX12_init_409 (wX12_keepsWhole _ eσ139) (okX12_keepsWhole _ (by decide) (by decide)) (ckK_el h141) hc16 t_1903 t_1905 s_X12_keepsWhole rfl (Nat.le_trans (cat_le _) (Nat.le_of_ble_eq_true rfl)) rfl ?_
  obtain ⟨σ142, eσ142, hf⟩ := ob hf
  refine g_putI dX12_init_412 eσ142 (Or.inl t_1973) hin16 hc16 (by decide) hty16 hnm16 (Or.inl rfl) rfl rfl rfl ?_
  refine g_aload_n (j := 0) dX12_init_415 rfl rfl ?_
  refine g_aload_n (j := 0) dX12_init_416 rfl rfl ?_
  obtain ⟨v143, ev143, hf⟩ := ob hf
  refine g_getI dX12_init_417 ev143 t_1973 hin16 hc16 (by decide) rfl ?_
  obtain ⟨σ144, eσ144, hf⟩ := ob hf
  refine g_putI dX12_init_420 eσ144 (Or.inl t_2024) hin16 hc16 (by decide) hty16 hnm16 (Or.inl rfl) rfl rfl rfl ?_
  refine g_iconst (v := 0) dX12_init_423 (by decide) ?_
  refine g_istore_n (i := 1) (L' := [(1, .int 0), (0, rv x0)]) dX12_init_424 rfl (Nat.le_of_ble_eq_true rfl) (by simp [rv_cat]) ?_
  refine g_sub (L' := [(0, rv x0), (1, .int 0)]) [1, 0] rfl ?_
  exact bX12_init_425 hX1 hX2 FU _ _ _ hf

theorem okX12_init (M : Mt) (h1 : 8 + 1 ≤ M.2.2.2.2.1) (h2 : 8 + (2 + 11) + 256 ≤ M.2.2.2.2.2.1) : CallOk M MtX12_init yX12_init 0 := ⟨t_1900, h1, h2, ⟨by decide, by decide⟩, by decide +kernel, t_16⟩
abbrev MtX12_bytesIn : Mt := (cX12_bytesIn, 3, "ExactlySaidModel", (Option.some Jvm.ClassFile.FieldType.int), 1, 84, false)
set_option maxRecDepth 100000 in
set_option maxHeartbeats 4000000 in
theorem bX12_bytesIn_26 {X : Xt} {σf : St} {r : Int32} (hX1 : X.2.2.1 = σf) (hX2 : X.2.2.2 = .inl (some (.int r))) {k4 : St → Int32 → Int32 → Int32 → Option (St × Int32)} (hk4 : ∀ (σ : St) (x0 : Int32) (x1 : Int32) (x2 : Int32), k4 σ x0 x1 x2 = some (σf, r) → G MtX12_bytesIn X σ 4 [(0, .int x0), (1, .int x1), (2, .int x2)] []) {σ : St} {x0 : Int32} {x2 : Int32} {y0 : Int32} {y1 : Int32} (hf : fX12_bytesIn_26 k4 σ x0 x2 y0 y1 = some (σf, r)) : G MtX12_bytesIn X σ 26 [(0, .int x0), (2, .int x2)] [.int y1, .int y0] := by
  unfold fX12_bytesIn_26 at hf
  refine g_iadd dX12_bytesIn_26 ?_
  obtain ⟨v1, ev1, hf⟩ := nm_el hf
  refine g_topI ev1 ?_
  refine g_istore_n (i := 1) (L' := [(1, .int v1), (0, .int x0), (2, .int x2)]) dX12_bytesIn_27 rfl (Nat.le_of_ble_eq_true rfl) rfl ?_
  obtain ⟨v2, ev2, hf⟩ := nm_el hf
  refine g_iinc (L' := [(2, .int v2), (1, .int v1), (0, .int x0)]) (j := 2) (v := v2) dX12_bytesIn_28 rfl (by rw [ev2]; rfl) (Nat.le_of_ble_eq_true rfl) rfl ?_
  refine g_goto (tgt := 4) dX12_bytesIn_31 (by decide) ?_
  refine g_sub (L' := [(0, .int x0), (1, .int v1), (2, .int v2)]) [2, 1, 0] rfl ?_
  exact hk4 _ _ _ _ hf

set_option maxRecDepth 100000 in
set_option maxHeartbeats 4000000 in
theorem bX12_bytesIn_4 {X : Xt} {σf : St} {r : Int32} (hX1 : X.2.2.1 = σf) (hX2 : X.2.2.2 = .inl (some (.int r))) : ∀ (n : Nat) (σ : St) (x0 : Int32) (x1 : Int32) (x2 : Int32), fX12_bytesIn_4 n σ x0 x1 x2 = some (σf, r) → G MtX12_bytesIn X σ 4 [(0, .int x0), (1, .int x1), (2, .int x2)] [] := by
  intro n
  induction n with
  | zero => intro σ x0 x1 x2 hf; cases hf
  | succ n ih =>
    intro σ x0 x1 x2 hf
    rw [fX12_bytesIn_4] at hf
    refine g_iload_n (j := 2) dX12_bytesIn_4 rfl rfl ?_
    refine g_bipush (v := 32) dX12_bytesIn_5 (by decide) ?_
    refine g_icmp_ge (tgt := 34) dX12_bytesIn_7 (by decide) (fun c1 => ?_) (fun c1 => ?_)
    · rw [if_pos c1] at hf
      refine g_iload_n (j := 1) dX12_bytesIn_34 rfl rfl ?_
      exact g_iret dX12_bytesIn_35 rfl rfl hX2 hX1 hf
    · rw [if_neg c1] at hf
      refine g_iload_n (j := 1) dX12_bytesIn_10 rfl rfl ?_
      refine g_iload_n (j := 0) dX12_bytesIn_11 rfl rfl ?_
      refine g_iload_n (j := 2) dX12_bytesIn_12 rfl rfl ?_
      refine g_ishr dX12_bytesIn_13 ?_
      refine g_sipush (v := 255) dX12_bytesIn_14 (by decide) ?_
      refine g_iand dX12_bytesIn_17 ?_
      refine g_if_ne (tgt := 25) dX12_bytesIn_18 (by decide) (fun c2 => ?_) (fun c2 => ?_)
      · rw [if_neg c2] at hf
        refine g_iconst (v := 1) dX12_bytesIn_25 (by decide) ?_
        refine g_sub (L' := [(0, .int x0), (2, .int x2)]) [0, 2] rfl ?_
        exact bX12_bytesIn_26 hX1 hX2 (fun σ x0 x1 x2 hf => ih σ x0 x1 x2 hf) hf
      · rw [if_pos c2] at hf
        refine g_iconst (v := 0) dX12_bytesIn_21 (by decide) ?_
        refine g_goto (tgt := 26) dX12_bytesIn_22 (by decide) ?_
        refine g_sub (L' := [(0, .int x0), (2, .int x2)]) [0, 2] rfl ?_
        exact bX12_bytesIn_26 hX1 hX2 (fun σ x0 x1 x2 hf => ih σ x0 x1 x2 hf) hf

set_option maxRecDepth 100000 in
set_option maxHeartbeats 4000000 in
theorem wX12_bytesIn (l : Launch) {σ σf : St} {x0 : Int32} {r : Int32} (hf : fX12_bytesIn σ x0 = some (σf, r)) : Con MtX12_bytesIn yX12_bytesIn l σ [.int x0] σf (some (.int r)) := by
  refine Con.of (by decide +kernel) rfl (fun h => absurd (show false = true from h) (by decide)) (by simp only [sl_n, sl_r, sl_i, sl_l]; exact Nat.le_of_ble_eq_true rfl) ?_
  rw [show lv_args 0 [.int x0] = [(0, .int x0)] by simp only [la_n, la_r, la_i, la_l] <;> rfl]
  have hX1 : ((l, σ, σf, .inl (some (.int r))) : Xt).2.2.1 = σf := rfl
  have hX2 : ((l, σ, σf, .inl (some (.int r))) : Xt).2.2.2 = .inl (some (.int r)) := rfl
  unfold fX12_bytesIn at hf
  refine g_iconst (v := 0) dX12_bytesIn_0 (by decide) ?_
  refine g_istore_n (i := 1) (L' := [(1, .int 0), (0, .int x0)]) dX12_bytesIn_1 rfl (Nat.le_of_ble_eq_true rfl) rfl ?_
  refine g_iconst (v := 0) dX12_bytesIn_2 (by decide) ?_
  refine g_istore_n (i := 2) (L' := [(2, .int 0), (1, .int 0), (0, .int x0)]) dX12_bytesIn_3 rfl (Nat.le_of_ble_eq_true rfl) rfl ?_
  refine g_sub (L' := [(0, .int x0), (1, .int 0), (2, .int 0)]) [2, 1, 0] rfl ?_
  exact bX12_bytesIn_4 hX1 hX2 FU _ _ _ _ hf

theorem okX12_bytesIn (M : Mt) (h1 : 1 + 1 ≤ M.2.2.2.2.1) (h2 : 8 + (3 + 11) + 84 ≤ M.2.2.2.2.2.1) : CallOk M MtX12_bytesIn yX12_bytesIn 1 := ⟨t_2224, h1, h2, ⟨by decide, by decide⟩, by decide +kernel, t_16⟩
abbrev MtX12_fails : Mt := (cX12_fails, 3, "ExactlySaidModel", (Option.some Jvm.ClassFile.FieldType.boolean), 1, 84, false)
set_option maxRecDepth 100000 in
set_option maxHeartbeats 4000000 in
theorem bX12_fails_16 {X : Xt} {σf : St} {r : Int32} (hX1 : X.2.2.1 = σf) (hX2 : X.2.2.2 = .inl (some (.int r))) {σ : St} {x0 : Nat} (hf : fX12_fails_16 σ x0 = some (σf, r)) : G MtX12_fails X σ 16 [(0, rv x0)] [] := by
  unfold fX12_fails_16 at hf
  refine g_aload_n (j := 0) dX12_fails_16 rfl rfl ?_
  obtain ⟨v1, ev1, hf⟩ := ob hf
  refine g_getI dX12_fails_17 ev1 t_1967 hin16 hc16 (by decide) rfl ?_
  refine g_if_eq (tgt := 27) dX12_fails_20 (by decide) (fun c2 => ?_) (fun c2 => ?_)
  · rw [if_pos c2] at hf
    refine g_iconst (v := 0) dX12_fails_27 (by decide) ?_
    exact g_iret dX12_fails_28 rfl (by decide) hX2 hX1 hf
  · rw [if_neg c2] at hf
    refine g_iconst (v := 1) dX12_fails_23 (by decide) ?_
    refine g_goto (tgt := 28) dX12_fails_24 (by decide) ?_
    exact g_iret dX12_fails_28 rfl (by decide) hX2 hX1 hf

set_option maxRecDepth 100000 in
set_option maxHeartbeats 4000000 in
theorem wX12_fails (l : Launch) {σ σf : St} {x0 : Nat} {x1 : Int32} {x2 : Int32} {r : Int32} (hf : fX12_fails σ x0 x1 x2 = some (σf, r)) : Con MtX12_fails yX12_fails l σ [rv x0, .int x1, .int x2] σf (some (.int r)) := by
  refine Con.of (by decide +kernel) rfl (fun h => absurd (show false = true from h) (by decide)) (by simp only [sl_n, sl_r, sl_i, sl_l]; exact Nat.le_of_ble_eq_true rfl) ?_
  rw [show lv_args 0 [rv x0, .int x1, .int x2] = [(0, rv x0), (1, .int x1), (2, .int x2)] by simp only [la_n, la_r, la_i, la_l] <;> rfl]
  have hX1 : ((l, σ, σf, .inl (some (.int r))) : Xt).2.2.1 = σf := rfl
  have hX2 : ((l, σ, σf, .inl (some (.int r))) : Xt).2.2.2 = .inl (some (.int r)) := rfl
  unfold fX12_fails at hf
  refine g_iload_n (j := 1) dX12_fails_0 rfl rfl ?_
  refine g_if_ne (tgt := 16) dX12_fails_1 (by decide) (fun c1 => ?_) (fun c1 => ?_)
  · rw [if_neg c1] at hf
    refine g_sub (L' := [(0, rv x0)]) [0] rfl ?_
    exact bX12_fails_16 hX1 hX2 hf
  · rw [if_pos c1] at hf
    refine g_aload_n (j := 0) dX12_fails_4 rfl rfl ?_
    obtain ⟨v2, ev2, hf⟩ := ob hf
    refine g_getI dX12_fails_5 ev2 t_1967 hin16 hc16 (by decide) rfl ?_
    refine g_if_ne (tgt := 16) dX12_fails_8 (by decide) (fun c3 => ?_) (fun c3 => ?_)
    · rw [if_neg c3] at hf
      refine g_sub (L' := [(0, rv x0)]) [0] rfl ?_
      exact bX12_fails_16 hX1 hX2 hf
    · rw [if_pos c3] at hf
      refine g_aload_n (j := 0) dX12_fails_11 rfl rfl ?_
      refine g_iload_n (j := 2) dX12_fails_12 rfl rfl ?_
      obtain ⟨σ4, eσ4, hf⟩ := ob hf
      refine g_putI dX12_fails_13 eσ4 (Or.inl t_1967) hin16 hc16 (by decide) hty16 hnm16 (Or.inl rfl) rfl rfl rfl ?_
      refine g_sub (L' := [(0, rv x0)]) [0] rfl ?_
      exact bX12_fails_16 hX1 hX2 hf

theorem okX12_fails (M : Mt) (h1 : 1 + 1 ≤ M.2.2.2.2.1) (h2 : 8 + (3 + 11) + 84 ≤ M.2.2.2.2.2.1) : CallOk M MtX12_fails yX12_fails 2 := ⟨t_2228, h1, h2, ⟨by decide, by decide⟩, by decide +kernel, t_16⟩
abbrev MtX12_takesBytes : Mt := (cX12_takesBytes, 4, "ExactlySaidModel", none, 1, 84, false)
set_option maxRecDepth 100000 in
set_option maxHeartbeats 4000000 in
theorem bX12_takesBytes_42 {X : Xt} {σf : St} {r : Unit} (hX1 : X.2.2.1 = σf) (hX2 : X.2.2.2 = .inl (none)) {k3 : St → Nat → Int32 → Int32 → Option (St × Unit)} (hk3 : ∀ (σ : St) (x0 : Nat) (x1 : Int32) (x2 : Int32), k3 σ x0 x1 x2 = some (σf, r) → G MtX12_takesBytes X σ 3 [(0, rv x0), (1, .int x1), (2, .int x2)] []) {σ : St} {x0 : Nat} {x1 : Int32} {x2 : Int32} (hf : fX12_takesBytes_42 k3 σ x0 x1 x2 = some (σf, r)) : G MtX12_takesBytes X σ 42 [(0, rv x0), (1, .int x1), (2, .int x2)] [] := by
  unfold fX12_takesBytes_42 at hf
  obtain ⟨v1, ev1, hf⟩ := nm_el hf
  refine g_iinc (L' := [(2, .int v1), (0, rv x0), (1, .int x1)]) (j := 2) (v := v1) dX12_takesBytes_42 rfl (by rw [ev1]; rfl) (Nat.le_of_ble_eq_true rfl) rfl ?_
  refine g_goto (tgt := 3) dX12_takesBytes_45 (by decide) ?_
  refine g_sub (L' := [(0, rv x0), (1, .int x1), (2, .int v1)]) [1, 2, 0] rfl ?_
  exact hk3 _ _ _ _ hf

set_option maxRecDepth 100000 in
set_option maxHeartbeats 4000000 in
theorem bX12_takesBytes_3 {X : Xt} {σf : St} {r : Unit} (hX1 : X.2.2.1 = σf) (hX2 : X.2.2.2 = .inl (none)) : ∀ (n : Nat) (σ : St) (x0 : Nat) (x1 : Int32) (x2 : Int32), fX12_takesBytes_3 n σ x0 x1 x2 = some (σf, r) → G MtX12_takesBytes X σ 3 [(0, rv x0), (1, .int x1), (2, .int x2)] [] := by
  intro n
  induction n with
  | zero => intro σ x0 x1 x2 hf; cases hf
  | succ n ih =>
    intro σ x0 x1 x2 hf
    rw [fX12_takesBytes_3] at hf
    refine g_iload_n (j := 2) dX12_takesBytes_3 rfl rfl ?_
    refine g_if_lt (tgt := 48) dX12_takesBytes_4 (by decide) (fun c1 => ?_) (fun c1 => ?_)
    · rw [if_pos c1] at hf
      exact g_vret dX12_takesBytes_48 rfl hX2 hX1 hf
    · rw [if_neg c1] at hf
      refine g_iload_n (j := 1) dX12_takesBytes_7 rfl rfl ?_
      refine g_iload_n (j := 2) dX12_takesBytes_8 rfl rfl ?_
      refine g_ishr dX12_takesBytes_9 ?_
      refine g_sipush (v := 255) dX12_takesBytes_10 (by decide) ?_
      refine g_iand dX12_takesBytes_13 ?_
      obtain ⟨v2, ev2, hf⟩ := nm_el hf
      refine g_topI ev2 ?_
      refine g_istore_n (i := 3) (L' := [(3, .int v2), (0, rv x0), (1, .int x1), (2, .int x2)]) dX12_takesBytes_14 rfl (Nat.le_of_ble_eq_true rfl) rfl ?_
      refine g_iload_n (j := 0) dX12_takesBytes_15 rfl rfl ?_
      refine g_if_ne (tgt := 22) dX12_takesBytes_16 (by decide) (fun c3 => ?_) (fun c3 => ?_)
      · rw [if_neg c3] at hf
        refine g_aload_n (j := 1) dX12_takesBytes_22 rfl rfl ?_
        obtain ⟨v4, ev4, hf⟩ := ob hf
        refine g_getF dX12_takesBytes_23 ev4 t_1974 hin16 hc16 (by decide) rfl ?_
        refine g_aload_n (j := 1) dX12_takesBytes_26 rfl rfl ?_
        obtain ⟨v5, ev5, hf⟩ := ob hf
        refine g_getI dX12_takesBytes_27 ev5 t_1975 hin16 hc16 (by decide) rfl ?_
        refine g_iload_n (j := 0) dX12_takesBytes_30 rfl rfl ?_
        obtain ⟨σ6, eσ6, hf⟩ := ob hf
        refine g_iast dX12_takesBytes_31 eσ6 ?_
        refine g_aload_n (j := 1) dX12_takesBytes_32 rfl rfl ?_
        refine g_dup dX12_takesBytes_33 (rv_cat _) ?_
        obtain ⟨v7, ev7, hf⟩ := ob hf
        refine g_getI dX12_takesBytes_34 ev7 t_1975 hin16 hc16 (by decide) rfl ?_
        refine g_iconst (v := 1) dX12_takesBytes_37 (by decide) ?_
        refine g_iadd dX12_takesBytes_38 ?_
        obtain ⟨σ8, eσ8, hf⟩ := ob hf
        refine g_putI dX12_takesBytes_39 eσ8 (Or.inl t_1975) hin16 hc16 (by decide) hty16 hnm16 (Or.inl rfl) rfl rfl rfl ?_
        refine g_sub (L' := [(0, rv x0), (1, .int x1), (2, .int x2)]) [1, 2, 3] rfl ?_
        exact bX12_takesBytes_42 hX1 hX2 (fun σ x0 x1 x2 hf => ih σ x0 x1 x2 hf) hf
      · rw [if_pos c3] at hf
        refine g_goto (tgt := 42) dX12_takesBytes_19 (by decide) ?_
        refine g_sub (L' := [(0, rv x0), (1, .int x1), (2, .int x2)]) [1, 2, 3] rfl ?_
        exact bX12_takesBytes_42 hX1 hX2 (fun σ x0 x1 x2 hf => ih σ x0 x1 x2 hf) hf

set_option maxRecDepth 100000 in
set_option maxHeartbeats 4000000 in
theorem wX12_takesBytes (l : Launch) {σ σf : St} {x0 : Nat} {x1 : Int32} {r : Unit} (hf : fX12_takesBytes σ x0 x1 = some (σf, r)) : Con MtX12_takesBytes yX12_takesBytes l σ [rv x0, .int x1] σf (none) := by
  refine Con.of (by decide +kernel) rfl (fun h => absurd (show false = true from h) (by decide)) (by simp only [sl_n, sl_r, sl_i, sl_l]; exact Nat.le_of_ble_eq_true rfl) ?_
  rw [show lv_args 0 [rv x0, .int x1] = [(0, rv x0), (1, .int x1)] by simp only [la_n, la_r, la_i, la_l] <;> rfl]
  have hX1 : ((l, σ, σf, .inl (none)) : Xt).2.2.1 = σf := rfl
  have hX2 : ((l, σ, σf, .inl (none)) : Xt).2.2.2 = .inl (none) := rfl
  unfold fX12_takesBytes at hf
  refine g_bipush (v := 24) dX12_takesBytes_0 (by decide) ?_
  refine g_istore_n (i := 2) (L' := [(2, .int 24), (0, rv x0), (1, .int x1)]) dX12_takesBytes_2 rfl (Nat.le_of_ble_eq_true rfl) rfl ?_
  refine g_sub (L' := [(0, rv x0), (1, .int x1), (2, .int 24)]) [1, 2, 0] rfl ?_
  exact bX12_takesBytes_3 hX1 hX2 FU _ _ _ _ hf

theorem okX12_takesBytes (M : Mt) (h1 : 1 + 1 ≤ M.2.2.2.2.1) (h2 : 8 + (4 + 11) + 84 ≤ M.2.2.2.2.2.1) : CallOk M MtX12_takesBytes yX12_takesBytes 1 := ⟨t_2232, h1, h2, ⟨by decide, by decide⟩, by decide +kernel, t_16⟩
abbrev MtX12_append : Mt := (cX12_append, 7, "ExactlySaidModel", (Option.some Jvm.ClassFile.FieldType.int), 2, 107, false)
set_option maxRecDepth 100000 in
set_option maxHeartbeats 4000000 in
theorem bX12_append_52 {X : Xt} {σf : St} {r : Int32} (hX1 : X.2.2.1 = σf) (hX2 : X.2.2.2 = .inl (some (.int r))) {σ : St} {x0 : Nat} {x1 : Int32} {x2 : Int32} {x3 : Int32} {x4 : Int32} {x5 : Int32} {y0 : Nat} {y1 : Int32} (hf : fX12_append_52 σ x0 x1 x2 x3 x4 x5 y0 y1 = some (σf, r)) : G MtX12_append X σ 52 [(0, rv x0), (1, .int x1), (2, .int x2), (3, .int x3), (4, .int x4), (5, .int x5)] [.int y1, rv y0] := by
  unfold fX12_append_52 at hf
  refine g_iconst (v := 1) dX12_append_52 (by decide) ?_
  obtain ⟨_, h3, hf⟩ := ob hf
  obtain ⟨σ1, v2, eσ1, hf⟩ := cb_el hf
  refine g_callV_i dX12_append_53 (wX12_fails _ eσ1) (okX12_fails _ (by decide) (by decide)) (ckK_el h3) hc16 t_2225 t_2227 s_X12_fails rfl (Nat.le_trans (cat_le _) (Nat.le_of_ble_eq_true rfl)) rfl ?_
  refine g_if_eq (tgt := 61) dX12_append_56 (by decide) (fun c4 => ?_) (fun c4 => ?_)
  · rw [if_pos c4] at hf
    refine g_aload_n (j := 0) dX12_append_61 rfl rfl ?_
    refine g_iload_n (j := 1) dX12_append_62 rfl rfl ?_
    obtain ⟨_, h7, hf⟩ := ob hf
    obtain ⟨σ5, v6, eσ5, hf⟩ := cb_el hf
    refine g_callV_v dX12_append_63 (wX12_takesBytes _ eσ5) (okX12_takesBytes _ (by decide) (by decide)) (ckK_el h7) hc16 t_2229 t_2231 s_X12_takesBytes rfl (Nat.le_trans (cat_le _) (Nat.le_of_ble_eq_true rfl)) rfl ?_
    refine g_aload_n (j := 0) dX12_append_66 rfl rfl ?_
    refine g_iload_n (j := 2) dX12_append_67 rfl rfl ?_
    obtain ⟨_, h10, hf⟩ := ob hf
    obtain ⟨σ8, v9, eσ8, hf⟩ := cb_el hf
    refine g_callV_v dX12_append_68 (wX12_takesBytes _ eσ8) (okX12_takesBytes _ (by decide) (by decide)) (ckK_el h10) hc16 t_2229 t_2231 s_X12_takesBytes rfl (Nat.le_trans (cat_le _) (Nat.le_of_ble_eq_true rfl)) rfl ?_
    refine g_aload_n (j := 0) dX12_append_71 rfl rfl ?_
    refine g_iload_n (j := 3) dX12_append_72 rfl rfl ?_
    obtain ⟨_, h13, hf⟩ := ob hf
    obtain ⟨σ11, v12, eσ11, hf⟩ := cb_el hf
    refine g_callV_v dX12_append_73 (wX12_takesBytes _ eσ11) (okX12_takesBytes _ (by decide) (by decide)) (ckK_el h13) hc16 t_2229 t_2231 s_X12_takesBytes rfl (Nat.le_trans (cat_le _) (Nat.le_of_ble_eq_true rfl)) rfl ?_
    refine g_aload_n (j := 0) dX12_append_76 rfl rfl ?_
    refine g_iload (j := 4) dX12_append_77 rfl ?_
    obtain ⟨_, h16, hf⟩ := ob hf
    obtain ⟨σ14, v15, eσ14, hf⟩ := cb_el hf
    refine g_callV_v dX12_append_79 (wX12_takesBytes _ eσ14) (okX12_takesBytes _ (by decide) (by decide)) (ckK_el h16) hc16 t_2229 t_2231 s_X12_takesBytes rfl (Nat.le_trans (cat_le _) (Nat.le_of_ble_eq_true rfl)) rfl ?_
    refine g_aload_n (j := 0) dX12_append_82 rfl rfl ?_
    refine g_iload (j := 5) dX12_append_83 rfl ?_
    obtain ⟨_, h19, hf⟩ := ob hf
    obtain ⟨σ17, v18, eσ17, hf⟩ := cb_el hf
    refine g_callV_v dX12_append_85 (wX12_takesBytes _ eσ17) (okX12_takesBytes _ (by decide) (by decide)) (ckK_el h19) hc16 t_2229 t_2231 s_X12_takesBytes rfl (Nat.le_trans (cat_le _) (Nat.le_of_ble_eq_true rfl)) rfl ?_
    refine g_aload_n (j := 0) dX12_append_88 rfl rfl ?_
    obtain ⟨v20, ev20, hf⟩ := ob hf
    refine g_getI dX12_append_89 ev20 t_1975 hin16 hc16 (by decide) rfl ?_
    exact g_iret dX12_append_92 rfl rfl hX2 hX1 hf
  · rw [if_neg c4] at hf
    refine g_iconst (v := 0) dX12_append_59 (by decide) ?_
    exact g_iret dX12_append_60 rfl rfl hX2 hX1 hf

set_option maxRecDepth 100000 in
set_option maxHeartbeats 4000000 in
theorem wX12_append (l : Launch) {σ σf : St} {x0 : Nat} {x1 : Int32} {x2 : Int32} {x3 : Int32} {x4 : Int32} {x5 : Int32} {r : Int32} (hf : fX12_append σ x0 x1 x2 x3 x4 x5 = some (σf, r)) : Con MtX12_append yX12_append l σ [rv x0, .int x1, .int x2, .int x3, .int x4, .int x5] σf (some (.int r)) := by
  refine Con.of (by decide +kernel) rfl (fun h => absurd (show false = true from h) (by decide)) (by simp only [sl_n, sl_r, sl_i, sl_l]; exact Nat.le_of_ble_eq_true rfl) ?_
  rw [show lv_args 0 [rv x0, .int x1, .int x2, .int x3, .int x4, .int x5] = [(0, rv x0), (1, .int x1), (2, .int x2), (3, .int x3), (4, .int x4), (5, .int x5)] by simp only [la_n, la_r, la_i, la_l] <;> rfl]
  have hX1 : ((l, σ, σf, .inl (some (.int r))) : Xt).2.2.1 = σf := rfl
  have hX2 : ((l, σ, σf, .inl (some (.int r))) : Xt).2.2.2 = .inl (some (.int r)) := rfl
  unfold fX12_append at hf
  refine g_aload_n (j := 0) dX12_append_0 rfl rfl ?_
  refine g_iconst (v := 0) dX12_append_1 (by decide) ?_
  obtain ⟨σ1, eσ1, hf⟩ := ob hf
  refine g_putI dX12_append_2 eσ1 (Or.inl t_1967) hin16 hc16 (by decide) hty16 hnm16 (Or.inl rfl) rfl rfl rfl ?_
  refine g_iload_n (j := 1) dX12_append_5 rfl rfl ?_
  obtain ⟨σ2, v3, eσ2, hf⟩ := cb_el hf
  refine g_callS_i dX12_append_6 (wX12_bytesIn _ eσ2) (okX12_bytesIn _ (by decide) (by decide)) t_2222 t_2223 rfl (Nat.le_trans (cat_le _) (Nat.le_of_ble_eq_true rfl)) rfl ?_
  refine g_iload_n (j := 2) dX12_append_9 rfl rfl ?_
  obtain ⟨σ4, v5, eσ4, hf⟩ := cb_el hf
  refine g_callS_i dX12_append_10 (wX12_bytesIn _ eσ4) (okX12_bytesIn _ (by decide) (by decide)) t_2222 t_2223 rfl (Nat.le_trans (cat_le _) (Nat.le_of_ble_eq_true rfl)) rfl ?_
  refine g_iadd dX12_append_13 ?_
  refine g_iload_n (j := 3) dX12_append_14 rfl rfl ?_
  obtain ⟨σ6, v7, eσ6, hf⟩ := cb_el hf
  refine g_callS_i dX12_append_15 (wX12_bytesIn _ eσ6) (okX12_bytesIn _ (by decide) (by decide)) t_2222 t_2223 rfl (Nat.le_trans (cat_le _) (Nat.le_of_ble_eq_true rfl)) rfl ?_
  refine g_iadd dX12_append_18 ?_
  refine g_iload (j := 4) dX12_append_19 rfl ?_
  obtain ⟨σ8, v9, eσ8, hf⟩ := cb_el hf
  refine g_callS_i dX12_append_21 (wX12_bytesIn _ eσ8) (okX12_bytesIn _ (by decide) (by decide)) t_2222 t_2223 rfl (Nat.le_trans (cat_le _) (Nat.le_of_ble_eq_true rfl)) rfl ?_
  refine g_iadd dX12_append_24 ?_
  refine g_iload (j := 5) dX12_append_25 rfl ?_
  obtain ⟨σ10, v11, eσ10, hf⟩ := cb_el hf
  refine g_callS_i dX12_append_27 (wX12_bytesIn _ eσ10) (okX12_bytesIn _ (by decide) (by decide)) t_2222 t_2223 rfl (Nat.le_trans (cat_le _) (Nat.le_of_ble_eq_true rfl)) rfl ?_
  refine g_iadd dX12_append_30 ?_
  obtain ⟨v12, ev12, hf⟩ := nm_el hf
  refine g_topI ev12 ?_
  refine g_istore (i := 6) (L' := [(6, .int v12), (0, rv x0), (1, .int x1), (2, .int x2), (3, .int x3), (4, .int x4), (5, .int x5)]) dX12_append_31 (Nat.le_of_ble_eq_true rfl) rfl ?_
  refine g_aload_n (j := 1) dX12_append_33 rfl rfl ?_
  refine g_aload_n (j := 1) dX12_append_34 rfl rfl ?_
  obtain ⟨v13, ev13, hf⟩ := ob hf
  refine g_getI dX12_append_35 ev13 t_1975 hin16 hc16 (by decide) rfl ?_
  refine g_iload (j := 0) dX12_append_38 rfl ?_
  refine g_iadd dX12_append_40 ?_
  refine g_sipush (v := 200) dX12_append_41 (by decide) ?_
  refine g_icmp_gt (tgt := 51) dX12_append_44 (by decide) (fun c14 => ?_) (fun c14 => ?_)
  · rw [if_pos c14] at hf
    refine g_iconst (v := 0) dX12_append_51 (by decide) ?_
    refine g_sub (L' := [(0, rv x0), (1, .int x1), (2, .int x2), (3, .int x3), (4, .int x4), (5, .int x5)]) [1, 2, 3, 4, 5, 6] rfl ?_
    exact bX12_append_52 hX1 hX2 hf
  · rw [if_neg c14] at hf
    refine g_iconst (v := 1) dX12_append_47 (by decide) ?_
    refine g_goto (tgt := 52) dX12_append_48 (by decide) ?_
    refine g_sub (L' := [(0, rv x0), (1, .int x1), (2, .int x2), (3, .int x3), (4, .int x4), (5, .int x5)]) [1, 2, 3, 4, 5, 6] rfl ?_
    exact bX12_append_52 hX1 hX2 hf

theorem okX12_append (M : Mt) (h1 : 2 + 1 ≤ M.2.2.2.2.1) (h2 : 8 + (7 + 11) + 107 ≤ M.2.2.2.2.2.1) : CallOk M MtX12_append yX12_append 5 := ⟨t_2221, h1, h2, ⟨by decide, by decide⟩, by decide +kernel, t_16⟩
abbrev MtX12_thrown : Mt := (cX12_thrown, 1, "ExactlySaidModel", (Option.some Jvm.ClassFile.FieldType.int), 1, 84, false)
set_option maxRecDepth 100000 in
set_option maxHeartbeats 4000000 in
theorem wX12_thrown (l : Launch) {σ σf : St} {x0 : Nat} {r : Int32} (hf : fX12_thrown σ x0 = some (σf, r)) : Con MtX12_thrown yX12_thrown l σ [rv x0] σf (some (.int r)) := by
  refine Con.of (by decide +kernel) rfl (fun h => absurd (show false = true from h) (by decide)) (by simp only [sl_n, sl_r, sl_i, sl_l]; exact Nat.le_of_ble_eq_true rfl) ?_
  rw [show lv_args 0 [rv x0] = [(0, rv x0)] by simp only [la_n, la_r, la_i, la_l] <;> rfl]
  have hX1 : ((l, σ, σf, .inl (some (.int r))) : Xt).2.2.1 = σf := rfl
  have hX2 : ((l, σ, σf, .inl (some (.int r))) : Xt).2.2.2 = .inl (some (.int r)) := rfl
  unfold fX12_thrown at hf
  refine g_aload_n (j := 0) dX12_thrown_0 rfl rfl ?_
  obtain ⟨v1, ev1, hf⟩ := ob hf
  refine g_getI dX12_thrown_1 ev1 t_1967 hin16 hc16 (by decide) rfl ?_
  exact g_iret dX12_thrown_4 rfl rfl hX2 hX1 hf

theorem okX12_thrown (M : Mt) (h1 : 1 + 1 ≤ M.2.2.2.2.1) (h2 : 8 + (1 + 11) + 84 ≤ M.2.2.2.2.2.1) : CallOk M MtX12_thrown yX12_thrown 0 := ⟨t_1895, h1, h2, ⟨by decide, by decide⟩, by decide +kernel, t_16⟩
abbrev MtX12_clearTape : Mt := (cX12_clearTape, 2, "ExactlySaidModel", (Option.some Jvm.ClassFile.FieldType.int), 1, 84, false)
set_option maxRecDepth 100000 in
set_option maxHeartbeats 4000000 in
theorem wX12_clearTape (l : Launch) {σ σf : St} {x0 : Nat} {r : Int32} (hf : fX12_clearTape σ x0 = some (σf, r)) : Con MtX12_clearTape yX12_clearTape l σ [rv x0] σf (some (.int r)) := by
  refine Con.of (by decide +kernel) rfl (fun h => absurd (show false = true from h) (by decide)) (by simp only [sl_n, sl_r, sl_i, sl_l]; exact Nat.le_of_ble_eq_true rfl) ?_
  rw [show lv_args 0 [rv x0] = [(0, rv x0)] by simp only [la_n, la_r, la_i, la_l] <;> rfl]
  have hX1 : ((l, σ, σf, .inl (some (.int r))) : Xt).2.2.1 = σf := rfl
  have hX2 : ((l, σ, σf, .inl (some (.int r))) : Xt).2.2.2 = .inl (some (.int r)) := rfl
  unfold fX12_clearTape at hf
  refine g_aload_n (j := 0) dX12_clearTape_0 rfl rfl ?_
  refine g_iconst (v := 0) dX12_clearTape_1 (by decide) ?_
  obtain ⟨σ1, eσ1, hf⟩ := ob hf
  refine g_putI dX12_clearTape_2 eσ1 (Or.inl t_1967) hin16 hc16 (by decide) hty16 hnm16 (Or.inl rfl) rfl rfl rfl ?_
  refine g_aload_n (j := 0) dX12_clearTape_5 rfl rfl ?_
  obtain ⟨v2, ev2, hf⟩ := ob hf
  refine g_getI dX12_clearTape_6 ev2 t_1975 hin16 hc16 (by decide) rfl ?_
  refine g_istore_n (i := 1) (L' := [(1, .int v2), (0, rv x0)]) dX12_clearTape_9 rfl (Nat.le_of_ble_eq_true rfl) (by simp [rv_cat]) ?_
  refine g_aload_n (j := 1) dX12_clearTape_10 rfl rfl ?_
  refine g_iconst (v := 0) dX12_clearTape_11 (by decide) ?_
  obtain ⟨σ3, eσ3, hf⟩ := ob hf
  refine g_putI dX12_clearTape_12 eσ3 (Or.inl t_1975) hin16 hc16 (by decide) hty16 hnm16 (Or.inl rfl) rfl rfl rfl ?_
  refine g_iload_n (j := 0) dX12_clearTape_15 rfl rfl ?_
  exact g_iret dX12_clearTape_16 rfl rfl hX2 hX1 hf

theorem okX12_clearTape (M : Mt) (h1 : 1 + 1 ≤ M.2.2.2.2.1) (h2 : 8 + (2 + 11) + 84 ≤ M.2.2.2.2.2.1) : CallOk M MtX12_clearTape yX12_clearTape 0 := ⟨t_2236, h1, h2, ⟨by decide, by decide⟩, by decide +kernel, t_16⟩
abbrev MtX12_hasByte : Mt := (cX12_hasByte, 3, "ExactlySaidModel", (Option.some Jvm.ClassFile.FieldType.boolean), 1, 84, false)
set_option maxRecDepth 100000 in
set_option maxHeartbeats 4000000 in
theorem wX12_hasByte (l : Launch) {σ σf : St} {x0 : Nat} {x1 : Int32} {x2 : Int32} {r : Int32} (hf : fX12_hasByte σ x0 x1 x2 = some (σf, r)) : Con MtX12_hasByte yX12_hasByte l σ [rv x0, .int x1, .int x2] σf (some (.int r)) := by
  refine Con.of (by decide +kernel) rfl (fun h => absurd (show false = true from h) (by decide)) (by simp only [sl_n, sl_r, sl_i, sl_l]; exact Nat.le_of_ble_eq_true rfl) ?_
  rw [show lv_args 0 [rv x0, .int x1, .int x2] = [(0, rv x0), (1, .int x1), (2, .int x2)] by simp only [la_n, la_r, la_i, la_l] <;> rfl]
  have hX1 : ((l, σ, σf, .inl (some (.int r))) : Xt).2.2.1 = σf := rfl
  have hX2 : ((l, σ, σf, .inl (some (.int r))) : Xt).2.2.2 = .inl (some (.int r)) := rfl
  unfold fX12_hasByte at hf
  refine g_iload_n (j := 1) dX12_hasByte_0 rfl rfl ?_
  refine g_aload_n (j := 0) dX12_hasByte_1 rfl rfl ?_
  obtain ⟨v1, ev1, hf⟩ := ob hf
  refine g_getI dX12_hasByte_2 ev1 t_1975 hin16 hc16 (by decide) rfl ?_
  refine g_icmp_ge (tgt := 22) dX12_hasByte_5 (by decide) (fun c2 => ?_) (fun c2 => ?_)
  · rw [if_pos c2] at hf
    refine g_iconst (v := 0) dX12_hasByte_22 (by decide) ?_
    exact g_iret dX12_hasByte_23 rfl (by decide) hX2 hX1 hf
  · rw [if_neg c2] at hf
    refine g_aload_n (j := 0) dX12_hasByte_8 rfl rfl ?_
    obtain ⟨v3, ev3, hf⟩ := ob hf
    refine g_getF dX12_hasByte_9 ev3 t_1974 hin16 hc16 (by decide) rfl ?_
    refine g_iload_n (j := 1) dX12_hasByte_12 rfl rfl ?_
    obtain ⟨v4, ev4, hf⟩ := ob hf
    refine g_iald dX12_hasByte_13 ev4 ?_
    refine g_iload_n (j := 2) dX12_hasByte_14 rfl rfl ?_
    refine g_icmp_ne (tgt := 22) dX12_hasByte_15 (by decide) (fun c5 => ?_) (fun c5 => ?_)
    · rw [if_neg c5] at hf
      refine g_iconst (v := 0) dX12_hasByte_22 (by decide) ?_
      exact g_iret dX12_hasByte_23 rfl (by decide) hX2 hX1 hf
    · rw [if_pos c5] at hf
      refine g_iconst (v := 1) dX12_hasByte_18 (by decide) ?_
      refine g_goto (tgt := 23) dX12_hasByte_19 (by decide) ?_
      exact g_iret dX12_hasByte_23 rfl (by decide) hX2 hX1 hf

theorem okX12_hasByte (M : Mt) (h1 : 1 + 1 ≤ M.2.2.2.2.1) (h2 : 8 + (3 + 11) + 84 ≤ M.2.2.2.2.2.1) : CallOk M MtX12_hasByte yX12_hasByte 2 := ⟨t_2256, h1, h2, ⟨by decide, by decide⟩, by decide +kernel, t_16⟩
abbrev MtX12_in : Mt := (cX12_in, 3, "ExactlySaidModel", (Option.some Jvm.ClassFile.FieldType.boolean), 1, 84, false)
set_option maxRecDepth 100000 in
set_option maxHeartbeats 4000000 in
theorem wX12_in (l : Launch) {σ σf : St} {x0 : Int32} {x1 : Int32} {x2 : Int32} {r : Int32} (hf : fX12_in σ x0 x1 x2 = some (σf, r)) : Con MtX12_in yX12_in l σ [.int x0, .int x1, .int x2] σf (some (.int r)) := by
  refine Con.of (by decide +kernel) rfl (fun h => absurd (show false = true from h) (by decide)) (by simp only [sl_n, sl_r, sl_i, sl_l]; exact Nat.le_of_ble_eq_true rfl) ?_
  rw [show lv_args 0 [.int x0, .int x1, .int x2] = [(0, .int x0), (1, .int x1), (2, .int x2)] by simp only [la_n, la_r, la_i, la_l] <;> rfl]
  have hX1 : ((l, σ, σf, .inl (some (.int r))) : Xt).2.2.1 = σf := rfl
  have hX2 : ((l, σ, σf, .inl (some (.int r))) : Xt).2.2.2 = .inl (some (.int r)) := rfl
  unfold fX12_in at hf
  refine g_iload_n (j := 0) dX12_in_0 rfl rfl ?_
  refine g_iload_n (j := 1) dX12_in_1 rfl rfl ?_
  refine g_icmp_lt (tgt := 14) dX12_in_2 (by decide) (fun c1 => ?_) (fun c1 => ?_)
  · rw [if_pos c1] at hf
    refine g_iconst (v := 0) dX12_in_14 (by decide) ?_
    exact g_iret dX12_in_15 rfl (by decide) hX2 hX1 hf
  · rw [if_neg c1] at hf
    refine g_iload_n (j := 0) dX12_in_5 rfl rfl ?_
    refine g_iload_n (j := 2) dX12_in_6 rfl rfl ?_
    refine g_icmp_gt (tgt := 14) dX12_in_7 (by decide) (fun c2 => ?_) (fun c2 => ?_)
    · rw [if_pos c2] at hf
      refine g_iconst (v := 0) dX12_in_14 (by decide) ?_
      exact g_iret dX12_in_15 rfl (by decide) hX2 hX1 hf
    · rw [if_neg c2] at hf
      refine g_iconst (v := 1) dX12_in_10 (by decide) ?_
      refine g_goto (tgt := 15) dX12_in_11 (by decide) ?_
      exact g_iret dX12_in_15 rfl (by decide) hX2 hX1 hf

theorem okX12_in (M : Mt) (h1 : 1 + 1 ≤ M.2.2.2.2.1) (h2 : 8 + (3 + 11) + 84 ≤ M.2.2.2.2.2.1) : CallOk M MtX12_in yX12_in 3 := ⟨t_2259, h1, h2, ⟨by decide, by decide⟩, by decide +kernel, t_16⟩
abbrev MtX12_readsWord : Mt := (cX12_readsWord, 2, "ExactlySaidModel", none, 2, 106, false)
set_option maxRecDepth 100000 in
set_option maxHeartbeats 4000000 in
theorem bX12_readsWord_69 {X : Xt} {σf : St} {r : Unit} (hX1 : X.2.2.1 = σf) (hX2 : X.2.2.2 = .inl (none)) {k7 : St → Nat → Int32 → Option (St × Unit)} (hk7 : ∀ (σ : St) (x0 : Nat) (x1 : Int32), k7 σ x0 x1 = some (σf, r) → G MtX12_readsWord X σ 7 [(0, rv x0), (1, .int x1)] []) {σ : St} {x0 : Nat} {x1 : Int32} (hf : fX12_readsWord_69 k7 σ x0 x1 = some (σf, r)) : G MtX12_readsWord X σ 69 [(0, rv x0), (1, .int x1)] [] := by
  unfold fX12_readsWord_69 at hf
  obtain ⟨v1, ev1, hf⟩ := nm_el hf
  refine g_iinc (L' := [(1, .int v1), (0, rv x0)]) (j := 1) (v := v1) dX12_readsWord_69 rfl (by rw [ev1]; rfl) (Nat.le_of_ble_eq_true rfl) (by simp [rv_cat]) ?_
  refine g_aload_n (j := 1) dX12_readsWord_72 rfl rfl ?_
  refine g_dup dX12_readsWord_73 (rv_cat _) ?_
  obtain ⟨v2, ev2, hf⟩ := ob hf
  refine g_getI dX12_readsWord_74 ev2 t_1980 hin16 hc16 (by decide) rfl ?_
  refine g_iconst (v := 1) dX12_readsWord_77 (by decide) ?_
  refine g_iadd dX12_readsWord_78 ?_
  obtain ⟨σ3, eσ3, hf⟩ := ob hf
  refine g_putI dX12_readsWord_79 eσ3 (Or.inl t_1980) hin16 hc16 (by decide) hty16 hnm16 (Or.inl rfl) rfl rfl rfl ?_
  refine g_goto (tgt := 7) dX12_readsWord_82 (by decide) ?_
  refine g_sub (L' := [(0, rv x0), (1, .int v1)]) [1, 0] rfl ?_
  exact hk7 _ _ _ hf

set_option maxRecDepth 100000 in
set_option maxHeartbeats 4000000 in
theorem bX12_readsWord_97 {X : Xt} {σf : St} {r : Unit} (hX1 : X.2.2.1 = σf) (hX2 : X.2.2.2 = .inl (none)) {σ : St} {y0 : Nat} {y1 : Int32} (hf : fX12_readsWord_97 σ y0 y1 = some (σf, r)) : G MtX12_readsWord X σ 97 [] [.int y1, rv y0] := by
  unfold fX12_readsWord_97 at hf
  obtain ⟨σ1, eσ1, hf⟩ := ob hf
  refine g_putI dX12_readsWord_97 eσ1 (Or.inl t_1977) hin16 hc16 (by decide) hty16 hnm16 (Or.inl rfl) rfl rfl rfl ?_
  exact g_vret dX12_readsWord_100 rfl hX2 hX1 hf

set_option maxRecDepth 100000 in
set_option maxHeartbeats 4000000 in
theorem bX12_readsWord_85 {X : Xt} {σf : St} {r : Unit} (hX1 : X.2.2.1 = σf) (hX2 : X.2.2.2 = .inl (none)) {σ : St} {x0 : Nat} {x1 : Int32} (hf : fX12_readsWord_85 σ x0 x1 = some (σf, r)) : G MtX12_readsWord X σ 85 [(0, rv x0), (1, .int x1)] [] := by
  unfold fX12_readsWord_85 at hf
  refine g_aload_n (j := 0) dX12_readsWord_85 rfl rfl ?_
  refine g_iload_n (j := 1) dX12_readsWord_86 rfl rfl ?_
  refine g_bipush (v := 6) dX12_readsWord_87 (by decide) ?_
  refine g_icmp_gt (tgt := 96) dX12_readsWord_89 (by decide) (fun c1 => ?_) (fun c1 => ?_)
  · rw [if_pos c1] at hf
    refine g_iconst (v := 4) dX12_readsWord_96 (by decide) ?_
    refine g_sub (L' := []) [] rfl ?_
    exact bX12_readsWord_97 hX1 hX2 hf
  · rw [if_neg c1] at hf
    refine g_iconst (v := 3) dX12_readsWord_92 (by decide) ?_
    refine g_goto (tgt := 97) dX12_readsWord_93 (by decide) ?_
    refine g_sub (L' := []) [] rfl ?_
    exact bX12_readsWord_97 hX1 hX2 hf

set_option maxRecDepth 100000 in
set_option maxHeartbeats 4000000 in
theorem bX12_readsWord_7 {X : Xt} {σf : St} {r : Unit} (hX1 : X.2.2.1 = σf) (hX2 : X.2.2.2 = .inl (none)) : ∀ (n : Nat) (σ : St) (x0 : Nat) (x1 : Int32), fX12_readsWord_7 n σ x0 x1 = some (σf, r) → G MtX12_readsWord X σ 7 [(0, rv x0), (1, .int x1)] [] := by
  intro n
  induction n with
  | zero => intro σ x0 x1 hf; cases hf
  | succ n ih =>
    intro σ x0 x1 hf
    rw [fX12_readsWord_7] at hf
    refine g_aload_n (j := 0) dX12_readsWord_7 rfl rfl ?_
    obtain ⟨v1, ev1, hf⟩ := ob hf
    refine g_getI dX12_readsWord_8 ev1 t_1980 hin16 hc16 (by decide) rfl ?_
    refine g_aload_n (j := 0) dX12_readsWord_11 rfl rfl ?_
    obtain ⟨v2, ev2, hf⟩ := ob hf
    refine g_getI dX12_readsWord_12 ev2 t_1975 hin16 hc16 (by decide) rfl ?_
    refine g_icmp_ge (tgt := 85) dX12_readsWord_15 (by decide) (fun c3 => ?_) (fun c3 => ?_)
    · rw [if_pos c3] at hf
      exact bX12_readsWord_85 hX1 hX2 hf
    · rw [if_neg c3] at hf
      refine g_aload_n (j := 0) dX12_readsWord_18 rfl rfl ?_
      obtain ⟨v4, ev4, hf⟩ := ob hf
      refine g_getF dX12_readsWord_19 ev4 t_1974 hin16 hc16 (by decide) rfl ?_
      refine g_aload_n (j := 0) dX12_readsWord_22 rfl rfl ?_
      obtain ⟨v5, ev5, hf⟩ := ob hf
      refine g_getI dX12_readsWord_23 ev5 t_1980 hin16 hc16 (by decide) rfl ?_
      obtain ⟨v6, ev6, hf⟩ := ob hf
      refine g_iald dX12_readsWord_26 ev6 ?_
      refine g_bipush (v := 97) dX12_readsWord_27 (by decide) ?_
      refine g_bipush (v := 122) dX12_readsWord_29 (by decide) ?_
      obtain ⟨σ7, v8, eσ7, hf⟩ := cb_el hf
      refine g_callS_i dX12_readsWord_31 (wX12_in _ eσ7) (okX12_in _ (by decide) (by decide)) t_2257 t_2258 rfl (Nat.le_trans (cat_le _) (Nat.le_of_ble_eq_true rfl)) rfl ?_
      refine g_if_eq (tgt := 85) dX12_readsWord_34 (by decide) (fun c9 => ?_) (fun c9 => ?_)
      · rw [if_pos c9] at hf
        exact bX12_readsWord_85 hX1 hX2 hf
      · rw [if_neg c9] at hf
        refine g_iload_n (j := 1) dX12_readsWord_37 rfl rfl ?_
        refine g_bipush (v := 6) dX12_readsWord_38 (by decide) ?_
        refine g_icmp_ge (tgt := 69) dX12_readsWord_40 (by decide) (fun c10 => ?_) (fun c10 => ?_)
        · rw [if_pos c10] at hf
          exact bX12_readsWord_69 hX1 hX2 (fun σ x0 x1 hf => ih σ x0 x1 hf) hf
        · rw [if_neg c10] at hf
          refine g_aload_n (j := 0) dX12_readsWord_43 rfl rfl ?_
          refine g_bipush (v := 27) dX12_readsWord_44 (by decide) ?_
          refine g_aload_n (j := 0) dX12_readsWord_46 rfl rfl ?_
          obtain ⟨v11, ev11, hf⟩ := ob hf
          refine g_getI dX12_readsWord_47 ev11 t_1979 hin16 hc16 (by decide) rfl ?_
          refine g_imul dX12_readsWord_50 ?_
          refine g_aload_n (j := 0) dX12_readsWord_51 rfl rfl ?_
          obtain ⟨v12, ev12, hf⟩ := ob hf
          refine g_getF dX12_readsWord_52 ev12 t_1974 hin16 hc16 (by decide) rfl ?_
          refine g_aload_n (j := 0) dX12_readsWord_55 rfl rfl ?_
          obtain ⟨v13, ev13, hf⟩ := ob hf
          refine g_getI dX12_readsWord_56 ev13 t_1980 hin16 hc16 (by decide) rfl ?_
          obtain ⟨v14, ev14, hf⟩ := ob hf
          refine g_iald dX12_readsWord_59 ev14 ?_
          refine g_iadd dX12_readsWord_60 ?_
          refine g_bipush (v := 97) dX12_readsWord_61 (by decide) ?_
          refine g_isub dX12_readsWord_63 ?_
          refine g_iconst (v := 1) dX12_readsWord_64 (by decide) ?_
          refine g_iadd dX12_readsWord_65 ?_
          obtain ⟨σ15, eσ15, hf⟩ := ob hf
          refine g_putI dX12_readsWord_66 eσ15 (Or.inl t_1979) hin16 hc16 (by decide) hty16 hnm16 (Or.inl rfl) rfl rfl rfl ?_
          exact bX12_readsWord_69 hX1 hX2 (fun σ x0 x1 hf => ih σ x0 x1 hf) hf

set_option maxRecDepth 100000 in
set_option maxHeartbeats 4000000 in
theorem wX12_readsWord (l : Launch) {σ σf : St} {x0 : Nat} {r : Unit} (hf : fX12_readsWord σ x0 = some (σf, r)) : Con MtX12_readsWord yX12_readsWord l σ [rv x0] σf (none) := by
  refine Con.of (by decide +kernel) rfl (fun h => absurd (show false = true from h) (by decide)) (by simp only [sl_n, sl_r, sl_i, sl_l]; exact Nat.le_of_ble_eq_true rfl) ?_
  rw [show lv_args 0 [rv x0] = [(0, rv x0)] by simp only [la_n, la_r, la_i, la_l] <;> rfl]
  have hX1 : ((l, σ, σf, .inl (none)) : Xt).2.2.1 = σf := rfl
  have hX2 : ((l, σ, σf, .inl (none)) : Xt).2.2.2 = .inl (none) := rfl
  unfold fX12_readsWord at hf
  refine g_iconst (v := 0) dX12_readsWord_0 (by decide) ?_
  refine g_istore_n (i := 1) (L' := [(1, .int 0), (0, rv x0)]) dX12_readsWord_1 rfl (Nat.le_of_ble_eq_true rfl) (by simp [rv_cat]) ?_
  refine g_aload_n (j := 1) dX12_readsWord_2 rfl rfl ?_
  refine g_iconst (v := 0) dX12_readsWord_3 (by decide) ?_
  obtain ⟨σ1, eσ1, hf⟩ := ob hf
  refine g_putI dX12_readsWord_4 eσ1 (Or.inl t_1979) hin16 hc16 (by decide) hty16 hnm16 (Or.inl rfl) rfl rfl rfl ?_
  refine g_sub (L' := [(0, rv x0), (1, .int 0)]) [1, 0] rfl ?_
  exact bX12_readsWord_7 hX1 hX2 FU _ _ _ hf

theorem okX12_readsWord (M : Mt) (h1 : 2 + 1 ≤ M.2.2.2.2.1) (h2 : 8 + (2 + 11) + 106 ≤ M.2.2.2.2.2.1) : CallOk M MtX12_readsWord yX12_readsWord 0 := ⟨t_2263, h1, h2, ⟨by decide, by decide⟩, by decide +kernel, t_16⟩
abbrev MtX12_isDigit : Mt := (cX12_isDigit, 1, "ExactlySaidModel", (Option.some Jvm.ClassFile.FieldType.boolean), 2, 106, false)
set_option maxRecDepth 100000 in
set_option maxHeartbeats 4000000 in
theorem wX12_isDigit (l : Launch) {σ σf : St} {x0 : Int32} {r : Int32} (hf : fX12_isDigit σ x0 = some (σf, r)) : Con MtX12_isDigit yX12_isDigit l σ [.int x0] σf (some (.int r)) := by
  refine Con.of (by decide +kernel) rfl (fun h => absurd (show false = true from h) (by decide)) (by simp only [sl_n, sl_r, sl_i, sl_l]; exact Nat.le_of_ble_eq_true rfl) ?_
  rw [show lv_args 0 [.int x0] = [(0, .int x0)] by simp only [la_n, la_r, la_i, la_l] <;> rfl]
  have hX1 : ((l, σ, σf, .inl (some (.int r))) : Xt).2.2.1 = σf := rfl
  have hX2 : ((l, σ, σf, .inl (some (.int r))) : Xt).2.2.2 = .inl (some (.int r)) := rfl
  unfold fX12_isDigit at hf
  refine g_iload_n (j := 0) dX12_isDigit_0 rfl rfl ?_
  refine g_bipush (v := 48) dX12_isDigit_1 (by decide) ?_
  refine g_bipush (v := 57) dX12_isDigit_3 (by decide) ?_
  obtain ⟨σ1, v2, eσ1, hf⟩ := cb_el hf
  refine g_callS_i dX12_isDigit_5 (wX12_in _ eσ1) (okX12_in _ (by decide) (by decide)) t_2257 t_2258 rfl (Nat.le_trans (cat_le _) (Nat.le_of_ble_eq_true rfl)) rfl ?_
  obtain ⟨_, h3, hf⟩ := ob hf
  exact g_iret dX12_isDigit_8 rfl (ckZ_el h3) hX2 hX1 hf

theorem okX12_isDigit (M : Mt) (h1 : 2 + 1 ≤ M.2.2.2.2.1) (h2 : 8 + (1 + 11) + 106 ≤ M.2.2.2.2.2.1) : CallOk M MtX12_isDigit yX12_isDigit 1 := ⟨t_2266, h1, h2, ⟨by decide, by decide⟩, by decide +kernel, t_16⟩
abbrev MtX12_hasDigit : Mt := (cX12_hasDigit, 2, "ExactlySaidModel", (Option.some Jvm.ClassFile.FieldType.boolean), 3, 126, false)
set_option maxRecDepth 100000 in
set_option maxHeartbeats 4000000 in
theorem wX12_hasDigit (l : Launch) {σ σf : St} {x0 : Nat} {x1 : Int32} {r : Int32} (hf : fX12_hasDigit σ x0 x1 = some (σf, r)) : Con MtX12_hasDigit yX12_hasDigit l σ [rv x0, .int x1] σf (some (.int r)) := by
  refine Con.of (by decide +kernel) rfl (fun h => absurd (show false = true from h) (by decide)) (by simp only [sl_n, sl_r, sl_i, sl_l]; exact Nat.le_of_ble_eq_true rfl) ?_
  rw [show lv_args 0 [rv x0, .int x1] = [(0, rv x0), (1, .int x1)] by simp only [la_n, la_r, la_i, la_l] <;> rfl]
  have hX1 : ((l, σ, σf, .inl (some (.int r))) : Xt).2.2.1 = σf := rfl
  have hX2 : ((l, σ, σf, .inl (some (.int r))) : Xt).2.2.2 = .inl (some (.int r)) := rfl
  unfold fX12_hasDigit at hf
  refine g_iload_n (j := 1) dX12_hasDigit_0 rfl rfl ?_
  refine g_aload_n (j := 0) dX12_hasDigit_1 rfl rfl ?_
  obtain ⟨v1, ev1, hf⟩ := ob hf
  refine g_getI dX12_hasDigit_2 ev1 t_1975 hin16 hc16 (by decide) rfl ?_
  refine g_icmp_ge (tgt := 24) dX12_hasDigit_5 (by decide) (fun c2 => ?_) (fun c2 => ?_)
  · rw [if_pos c2] at hf
    refine g_iconst (v := 0) dX12_hasDigit_24 (by decide) ?_
    exact g_iret dX12_hasDigit_25 rfl (by decide) hX2 hX1 hf
  · rw [if_neg c2] at hf
    refine g_aload_n (j := 0) dX12_hasDigit_8 rfl rfl ?_
    obtain ⟨v3, ev3, hf⟩ := ob hf
    refine g_getF dX12_hasDigit_9 ev3 t_1974 hin16 hc16 (by decide) rfl ?_
    refine g_iload_n (j := 1) dX12_hasDigit_12 rfl rfl ?_
    obtain ⟨v4, ev4, hf⟩ := ob hf
    refine g_iald dX12_hasDigit_13 ev4 ?_
    obtain ⟨σ5, v6, eσ5, hf⟩ := cb_el hf
    refine g_callS_i dX12_hasDigit_14 (wX12_isDigit _ eσ5) (okX12_isDigit _ (by decide) (by decide)) t_2264 t_2265 rfl (Nat.le_trans (cat_le _) (Nat.le_of_ble_eq_true rfl)) rfl ?_
    refine g_if_eq (tgt := 24) dX12_hasDigit_17 (by decide) (fun c7 => ?_) (fun c7 => ?_)
    · rw [if_pos c7] at hf
      refine g_iconst (v := 0) dX12_hasDigit_24 (by decide) ?_
      exact g_iret dX12_hasDigit_25 rfl (by decide) hX2 hX1 hf
    · rw [if_neg c7] at hf
      refine g_iconst (v := 1) dX12_hasDigit_20 (by decide) ?_
      refine g_goto (tgt := 25) dX12_hasDigit_21 (by decide) ?_
      exact g_iret dX12_hasDigit_25 rfl (by decide) hX2 hX1 hf

theorem okX12_hasDigit (M : Mt) (h1 : 3 + 1 ≤ M.2.2.2.2.1) (h2 : 8 + (2 + 11) + 126 ≤ M.2.2.2.2.2.1) : CallOk M MtX12_hasDigit yX12_hasDigit 1 := ⟨t_2278, h1, h2, ⟨by decide, by decide⟩, by decide +kernel, t_16⟩
abbrev MtX12_endOfDigits : Mt := (cX12_endOfDigits, 3, "ExactlySaidModel", (Option.some Jvm.ClassFile.FieldType.int), 4, 147, false)
set_option maxRecDepth 100000 in
set_option maxHeartbeats 4000000 in
theorem bX12_endOfDigits_2 {X : Xt} {σf : St} {r : Int32} (hX1 : X.2.2.1 = σf) (hX2 : X.2.2.2 = .inl (some (.int r))) : ∀ (n : Nat) (σ : St) (x0 : Nat) (x2 : Int32), fX12_endOfDigits_2 n σ x0 x2 = some (σf, r) → G MtX12_endOfDigits X σ 2 [(0, rv x0), (2, .int x2)] [] := by
  intro n
  induction n with
  | zero => intro σ x0 x2 hf; cases hf
  | succ n ih =>
    intro σ x0 x2 hf
    rw [fX12_endOfDigits_2] at hf
    refine g_aload_n (j := 0) dX12_endOfDigits_2 rfl rfl ?_
    refine g_iload_n (j := 1) dX12_endOfDigits_3 rfl rfl ?_
    obtain ⟨_, h3, hf⟩ := ob hf
    obtain ⟨σ1, v2, eσ1, hf⟩ := cb_el hf
    refine g_callV_i dX12_endOfDigits_4 (wX12_hasDigit _ eσ1) (okX12_hasDigit _ (by decide) (by decide)) (ckK_el h3) hc16 t_2275 t_2277 s_X12_hasDigit rfl (Nat.le_trans (cat_le _) (Nat.le_of_ble_eq_true rfl)) rfl ?_
    refine g_if_eq (tgt := 16) dX12_endOfDigits_7 (by decide) (fun c4 => ?_) (fun c4 => ?_)
    · rw [if_pos c4] at hf
      refine g_iload_n (j := 1) dX12_endOfDigits_16 rfl rfl ?_
      exact g_iret dX12_endOfDigits_17 rfl rfl hX2 hX1 hf
    · rw [if_neg c4] at hf
      obtain ⟨v5, ev5, hf⟩ := nm_el hf
      refine g_iinc (L' := [(2, .int v5), (0, rv x0)]) (j := 1) (v := v5) dX12_endOfDigits_10 rfl (by rw [ev5]; rfl) (Nat.le_of_ble_eq_true rfl) rfl ?_
      refine g_goto (tgt := 2) dX12_endOfDigits_13 (by decide) ?_
      refine g_sub (L' := [(0, rv x0), (2, .int v5)]) [1, 0] rfl ?_
      exact ih _ _ _ hf

set_option maxRecDepth 100000 in
set_option maxHeartbeats 4000000 in
theorem wX12_endOfDigits (l : Launch) {σ σf : St} {x0 : Nat} {x1 : Int32} {r : Int32} (hf : fX12_endOfDigits σ x0 x1 = some (σf, r)) : Con MtX12_endOfDigits yX12_endOfDigits l σ [rv x0, .int x1] σf (some (.int r)) := by
  refine Con.of (by decide +kernel) rfl (fun h => absurd (show false = true from h) (by decide)) (by simp only [sl_n, sl_r, sl_i, sl_l]; exact Nat.le_of_ble_eq_true rfl) ?_
  rw [show lv_args 0 [rv x0, .int x1] = [(0, rv x0), (1, .int x1)] by simp only [la_n, la_r, la_i, la_l] <;> rfl]
  have hX1 : ((l, σ, σf, .inl (some (.int r))) : Xt).2.2.1 = σf := rfl
  have hX2 : ((l, σ, σf, .inl (some (.int r))) : Xt).2.2.2 = .inl (some (.int r)) := rfl
  unfold fX12_endOfDigits at hf
  refine g_iload_n (j := 1) dX12_endOfDigits_0 rfl rfl ?_
  refine g_istore_n (i := 2) (L' := [(2, .int x1), (0, rv x0), (1, .int x1)]) dX12_endOfDigits_1 rfl (Nat.le_of_ble_eq_true rfl) rfl ?_
  refine g_sub (L' := [(0, rv x0), (2, .int x1)]) [1, 0] rfl ?_
  exact bX12_endOfDigits_2 hX1 hX2 FU _ _ _ hf

theorem okX12_endOfDigits (M : Mt) (h1 : 4 + 1 ≤ M.2.2.2.2.1) (h2 : 8 + (3 + 11) + 147 ≤ M.2.2.2.2.2.1) : CallOk M MtX12_endOfDigits yX12_endOfDigits 1 := ⟨t_2274, h1, h2, ⟨by decide, by decide⟩, by decide +kernel, t_16⟩
abbrev MtX12_readsNumber : Mt := (cX12_readsNumber, 5, "ExactlySaidModel", none, 5, 169, false)
set_option maxRecDepth 100000 in
set_option maxHeartbeats 4000000 in
theorem bX12_readsNumber_166 {X : Xt} {σf : St} {r : Unit} (hX1 : X.2.2.1 = σf) (hX2 : X.2.2.2 = .inl (none)) {σ : St} {x0 : Nat} {x1 : Int32} {y0 : Nat} {y1 : Int32} (hf : fX12_readsNumber_166 σ x0 x1 y0 y1 = some (σf, r)) : G MtX12_readsNumber X σ 166 [(0, rv x0), (1, .int x1)] [.int y1, rv y0] := by
  unfold fX12_readsNumber_166 at hf
  obtain ⟨σ1, eσ1, hf⟩ := ob hf
  refine g_putI dX12_readsNumber_166 eσ1 (Or.inl t_1977) hin16 hc16 (by decide) hty16 hnm16 (Or.inl rfl) rfl rfl rfl ?_
  refine g_aload_n (j := 0) dX12_readsNumber_169 rfl rfl ?_
  refine g_iload_n (j := 1) dX12_readsNumber_170 rfl rfl ?_
  obtain ⟨σ2, eσ2, hf⟩ := ob hf
  refine g_putI dX12_readsNumber_171 eσ2 (Or.inl t_1980) hin16 hc16 (by decide) hty16 hnm16 (Or.inl rfl) rfl rfl rfl ?_
  exact g_vret dX12_readsNumber_174 rfl hX2 hX1 hf

set_option maxRecDepth 100000 in
set_option maxHeartbeats 4000000 in
theorem bX12_readsNumber_151 {X : Xt} {σf : St} {r : Unit} (hX1 : X.2.2.1 = σf) (hX2 : X.2.2.2 = .inl (none)) {σ : St} {x0 : Nat} {x1 : Int32} {x2 : Int32} (hf : fX12_readsNumber_151 σ x0 x1 x2 = some (σf, r)) : G MtX12_readsNumber X σ 151 [(0, rv x0), (1, .int x1), (2, .int x2)] [] := by
  unfold fX12_readsNumber_151 at hf
  refine g_aload_n (j := 0) dX12_readsNumber_151 rfl rfl ?_
  refine g_iload_n (j := 1) dX12_readsNumber_152 rfl rfl ?_
  obtain ⟨σ1, eσ1, hf⟩ := ob hf
  refine g_putI dX12_readsNumber_153 eσ1 (Or.inl t_1983) hin16 hc16 (by decide) hty16 hnm16 (Or.inl rfl) rfl rfl rfl ?_
  refine g_aload_n (j := 0) dX12_readsNumber_156 rfl rfl ?_
  refine g_iload_n (j := 2) dX12_readsNumber_157 rfl rfl ?_
  refine g_if_eq (tgt := 165) dX12_readsNumber_158 (by decide) (fun c2 => ?_) (fun c2 => ?_)
  · rw [if_pos c2] at hf
    refine g_iconst (v := 4) dX12_readsNumber_165 (by decide) ?_
    refine g_sub (L' := [(0, rv x0), (1, .int x1)]) [0, 1] rfl ?_
    exact bX12_readsNumber_166 hX1 hX2 hf
  · rw [if_neg c2] at hf
    refine g_iconst (v := 2) dX12_readsNumber_161 (by decide) ?_
    refine g_goto (tgt := 166) dX12_readsNumber_162 (by decide) ?_
    refine g_sub (L' := [(0, rv x0), (1, .int x1)]) [0, 1] rfl ?_
    exact bX12_readsNumber_166 hX1 hX2 hf

set_option maxRecDepth 100000 in
set_option maxHeartbeats 4000000 in
theorem bX12_readsNumber_128 {X : Xt} {σf : St} {r : Unit} (hX1 : X.2.2.1 = σf) (hX2 : X.2.2.2 = .inl (none)) {σ : St} {x0 : Nat} {x4 : Int32} {y0 : Int32} {y1 : Int32} (hf : fX12_readsNumber_128 σ x0 x4 y0 y1 = some (σf, r)) : G MtX12_readsNumber X σ 128 [(0, rv x0), (4, .int x4)] [.int y1, .int y0] := by
  unfold fX12_readsNumber_128 at hf
  refine g_iand dX12_readsNumber_128 ?_
  obtain ⟨v1, ev1, hf⟩ := nm_el hf
  refine g_topI ev1 ?_
  refine g_istore_n (i := 2) (L' := [(2, .int v1), (0, rv x0), (4, .int x4)]) dX12_readsNumber_129 rfl (Nat.le_of_ble_eq_true rfl) rfl ?_
  refine g_iload (j := 2) dX12_readsNumber_130 rfl ?_
  refine g_iconst (v := 1) dX12_readsNumber_132 (by decide) ?_
  refine g_iadd dX12_readsNumber_133 ?_
  obtain ⟨v2, ev2, hf⟩ := nm_el hf
  refine g_topI ev2 ?_
  refine g_istore_n (i := 1) (L' := [(1, .int v2), (2, .int v1), (0, rv x0), (4, .int x4)]) dX12_readsNumber_134 rfl (Nat.le_of_ble_eq_true rfl) (by simp [rv_cat]) ?_
  refine g_goto (tgt := 151) dX12_readsNumber_135 (by decide) ?_
  refine g_sub (L' := [(0, rv x0), (1, .int v2), (2, .int v1)]) [2, 0, 1] rfl ?_
  exact bX12_readsNumber_151 hX1 hX2 hf

set_option maxRecDepth 100000 in
set_option maxHeartbeats 4000000 in
theorem bX12_readsNumber_127 {X : Xt} {σf : St} {r : Unit} (hX1 : X.2.2.1 = σf) (hX2 : X.2.2.2 = .inl (none)) {σ : St} {x0 : Nat} {x4 : Int32} {y0 : Int32} (hf : fX12_readsNumber_127 σ x0 x4 y0 = some (σf, r)) : G MtX12_readsNumber X σ 127 [(0, rv x0), (4, .int x4)] [.int y0] := by
  unfold fX12_readsNumber_127 at hf
  refine g_iconst (v := 0) dX12_readsNumber_127 (by decide) ?_
  exact bX12_readsNumber_128 hX1 hX2 hf

set_option maxRecDepth 100000 in
set_option maxHeartbeats 4000000 in
theorem bX12_readsNumber_149 {X : Xt} {σf : St} {r : Unit} (hX1 : X.2.2.1 = σf) (hX2 : X.2.2.2 = .inl (none)) {σ : St} {x0 : Nat} {x1 : Int32} {y0 : Int32} {y1 : Int32} (hf : fX12_readsNumber_149 σ x0 x1 y0 y1 = some (σf, r)) : G MtX12_readsNumber X σ 149 [(0, rv x0), (1, .int x1)] [.int y1, .int y0] := by
  unfold fX12_readsNumber_149 at hf
  refine g_iand dX12_readsNumber_149 ?_
  obtain ⟨v1, ev1, hf⟩ := nm_el hf
  refine g_topI ev1 ?_
  refine g_istore_n (i := 2) (L' := [(2, .int v1), (0, rv x0), (1, .int x1)]) dX12_readsNumber_150 rfl (Nat.le_of_ble_eq_true rfl) rfl ?_
  refine g_sub (L' := [(0, rv x0), (1, .int x1), (2, .int v1)]) [1, 2, 0] rfl ?_
  exact bX12_readsNumber_151 hX1 hX2 hf

set_option maxRecDepth 100000 in
set_option maxHeartbeats 4000000 in
theorem bX12_readsNumber_70 {X : Xt} {σf : St} {r : Unit} (hX1 : X.2.2.1 = σf) (hX2 : X.2.2.2 = .inl (none)) {σ : St} {x0 : Nat} {x1 : Int32} {x3 : Int32} {y0 : Int32} {y1 : Int32} (hf : fX12_readsNumber_70 σ x0 x1 x3 y0 y1 = some (σf, r)) : G MtX12_readsNumber X σ 70 [(0, rv x0), (1, .int x1), (3, .int x3)] [.int y1, .int y0] := by
  unfold fX12_readsNumber_70 at hf
  refine g_iand dX12_readsNumber_70 ?_
  obtain ⟨v1, ev1, hf⟩ := nm_el hf
  refine g_topI ev1 ?_
  refine g_istore_n (i := 2) (L' := [(2, .int v1), (0, rv x0), (1, .int x1), (3, .int x3)]) dX12_readsNumber_71 rfl (Nat.le_of_ble_eq_true rfl) rfl ?_
  refine g_aload_n (j := 1) dX12_readsNumber_72 rfl rfl ?_
  refine g_iload_n (j := 2) dX12_readsNumber_73 rfl rfl ?_
  obtain ⟨σ2, eσ2, hf⟩ := ob hf
  refine g_putI dX12_readsNumber_74 eσ2 (Or.inl t_1982) hin16 hc16 (by decide) hty16 hnm16 (Or.inl rfl) rfl rfl rfl ?_
  refine g_aload_n (j := 1) dX12_readsNumber_77 rfl rfl ?_
  refine g_iload_n (j := 2) dX12_readsNumber_78 rfl rfl ?_
  refine g_bipush (v := 91) dX12_readsNumber_79 (by decide) ?_
  obtain ⟨_, h5, hf⟩ := ob hf
  obtain ⟨σ3, v4, eσ3, hf⟩ := cb_el hf
  refine g_callV_i dX12_readsNumber_81 (wX12_hasByte _ eσ3) (okX12_hasByte _ (by decide) (by decide)) (ckK_el h5) hc16 t_2253 t_2255 s_X12_hasByte rfl (Nat.le_trans (cat_le _) (Nat.le_of_ble_eq_true rfl)) rfl ?_
  refine g_if_eq (tgt := 138) dX12_readsNumber_84 (by decide) (fun c6 => ?_) (fun c6 => ?_)
  · rw [if_pos c6] at hf
    refine g_iload_n (j := 0) dX12_readsNumber_138 rfl rfl ?_
    refine g_iload_n (j := 2) dX12_readsNumber_139 rfl rfl ?_
    refine g_iload_n (j := 3) dX12_readsNumber_140 rfl rfl ?_
    refine g_icmp_le (tgt := 148) dX12_readsNumber_141 (by decide) (fun c7 => ?_) (fun c7 => ?_)
    · rw [if_pos c7] at hf
      refine g_iconst (v := 0) dX12_readsNumber_148 (by decide) ?_
      refine g_sub (L' := [(0, rv x0), (1, .int x1)]) [1, 2] rfl ?_
      exact bX12_readsNumber_149 hX1 hX2 hf
    · rw [if_neg c7] at hf
      refine g_iconst (v := 1) dX12_readsNumber_144 (by decide) ?_
      refine g_goto (tgt := 149) dX12_readsNumber_145 (by decide) ?_
      refine g_sub (L' := [(0, rv x0), (1, .int x1)]) [1, 2] rfl ?_
      exact bX12_readsNumber_149 hX1 hX2 hf
  · rw [if_neg c6] at hf
    refine g_aload_n (j := 1) dX12_readsNumber_87 rfl rfl ?_
    refine g_iload_n (j := 2) dX12_readsNumber_88 rfl rfl ?_
    refine g_iconst (v := 1) dX12_readsNumber_89 (by decide) ?_
    refine g_iadd dX12_readsNumber_90 ?_
    obtain ⟨_, h10, hf⟩ := ob hf
    obtain ⟨σ8, v9, eσ8, hf⟩ := cb_el hf
    refine g_callV_i dX12_readsNumber_91 (wX12_endOfDigits _ eσ8) (okX12_endOfDigits _ (by decide) (by decide)) (ckK_el h10) hc16 t_2271 t_2273 s_X12_endOfDigits rfl (Nat.le_trans (cat_le _) (Nat.le_of_ble_eq_true rfl)) rfl ?_
    refine g_istore (i := 4) (L' := [(4, .int v9), (2, .int v1), (0, rv x0), (1, .int x1), (3, .int x3)]) dX12_readsNumber_94 (Nat.le_of_ble_eq_true rfl) rfl ?_
    refine g_iload_n (j := 1) dX12_readsNumber_96 rfl rfl ?_
    refine g_iload (j := 0) dX12_readsNumber_97 rfl ?_
    refine g_iload_n (j := 3) dX12_readsNumber_99 rfl rfl ?_
    refine g_isub dX12_readsNumber_100 ?_
    refine g_iconst (v := 1) dX12_readsNumber_101 (by decide) ?_
    refine g_isub dX12_readsNumber_102 ?_
    refine g_iconst (v := 1) dX12_readsNumber_103 (by decide) ?_
    refine g_bipush (v := 6) dX12_readsNumber_104 (by decide) ?_
    obtain ⟨σ11, v12, eσ11, hf⟩ := cb_el hf
    refine g_callS_i dX12_readsNumber_106 (wX12_in _ eσ11) (okX12_in _ (by decide) (by decide)) t_2257 t_2258 rfl (Nat.le_trans (cat_le _) (Nat.le_of_ble_eq_true rfl)) rfl ?_
    refine g_if_eq (tgt := 127) dX12_readsNumber_109 (by decide) (fun c13 => ?_) (fun c13 => ?_)
    · rw [if_pos c13] at hf
      refine g_sub (L' := [(0, rv x0), (4, .int v9)]) [2, 0] rfl ?_
      exact bX12_readsNumber_127 hX1 hX2 hf
    · rw [if_neg c13] at hf
      refine g_aload_n (j := 2) dX12_readsNumber_112 rfl rfl ?_
      refine g_iload (j := 0) dX12_readsNumber_113 rfl ?_
      refine g_bipush (v := 93) dX12_readsNumber_115 (by decide) ?_
      obtain ⟨_, h16, hf⟩ := ob hf
      obtain ⟨σ14, v15, eσ14, hf⟩ := cb_el hf
      refine g_callV_i dX12_readsNumber_117 (wX12_hasByte _ eσ14) (okX12_hasByte _ (by decide) (by decide)) (ckK_el h16) hc16 t_2253 t_2255 s_X12_hasByte rfl (Nat.le_trans (cat_le _) (Nat.le_of_ble_eq_true rfl)) rfl ?_
      refine g_if_eq (tgt := 127) dX12_readsNumber_120 (by decide) (fun c17 => ?_) (fun c17 => ?_)
      · rw [if_pos c17] at hf
        refine g_sub (L' := [(0, rv x0), (4, .int v9)]) [2, 0] rfl ?_
        exact bX12_readsNumber_127 hX1 hX2 hf
      · rw [if_neg c17] at hf
        refine g_iconst (v := 1) dX12_readsNumber_123 (by decide) ?_
        refine g_goto (tgt := 128) dX12_readsNumber_124 (by decide) ?_
        refine g_sub (L' := [(0, rv x0), (4, .int v9)]) [2, 0] rfl ?_
        exact bX12_readsNumber_128 hX1 hX2 hf

set_option maxRecDepth 100000 in
set_option maxHeartbeats 4000000 in
theorem bX12_readsNumber_25 {X : Xt} {σf : St} {r : Unit} (hX1 : X.2.2.1 = σf) (hX2 : X.2.2.2 = .inl (none)) {σ : St} {x0 : Nat} {x1 : Int32} {y0 : Int32} (hf : fX12_readsNumber_25 σ x0 x1 y0 = some (σf, r)) : G MtX12_readsNumber X σ 25 [(0, rv x0), (1, .int x1)] [.int y0] := by
  unfold fX12_readsNumber_25 at hf
  refine g_istore_n (i := 2) (L' := [(2, .int y0), (0, rv x0), (1, .int x1)]) dX12_readsNumber_25 rfl (Nat.le_of_ble_eq_true rfl) rfl ?_
  refine g_aload_n (j := 1) dX12_readsNumber_26 rfl rfl ?_
  refine g_iload_n (j := 2) dX12_readsNumber_27 rfl rfl ?_
  obtain ⟨σ1, eσ1, hf⟩ := ob hf
  refine g_putI dX12_readsNumber_28 eσ1 (Or.inl t_1981) hin16 hc16 (by decide) hty16 hnm16 (Or.inl rfl) rfl rfl rfl ?_
  refine g_aload_n (j := 1) dX12_readsNumber_31 rfl rfl ?_
  refine g_iload_n (j := 2) dX12_readsNumber_32 rfl rfl ?_
  obtain ⟨σ2, eσ2, hf⟩ := ob hf
  refine g_putI dX12_readsNumber_33 eσ2 (Or.inl t_1982) hin16 hc16 (by decide) hty16 hnm16 (Or.inl rfl) rfl rfl rfl ?_
  refine g_aload_n (j := 1) dX12_readsNumber_36 rfl rfl ?_
  refine g_iload_n (j := 2) dX12_readsNumber_37 rfl rfl ?_
  refine g_bipush (v := 46) dX12_readsNumber_38 (by decide) ?_
  obtain ⟨_, h5, hf⟩ := ob hf
  obtain ⟨σ3, v4, eσ3, hf⟩ := cb_el hf
  refine g_callV_i dX12_readsNumber_40 (wX12_hasByte _ eσ3) (okX12_hasByte _ (by decide) (by decide)) (ckK_el h5) hc16 t_2253 t_2255 s_X12_hasByte rfl (Nat.le_trans (cat_le _) (Nat.le_of_ble_eq_true rfl)) rfl ?_
  refine g_if_eq (tgt := 151) dX12_readsNumber_43 (by decide) (fun c6 => ?_) (fun c6 => ?_)
  · rw [if_pos c6] at hf
    refine g_sub (L' := [(0, rv x0), (1, .int x1), (2, .int y0)]) [1, 2, 0] rfl ?_
    exact bX12_readsNumber_151 hX1 hX2 hf
  · rw [if_neg c6] at hf
    refine g_iload_n (j := 2) dX12_readsNumber_46 rfl rfl ?_
    refine g_iconst (v := 1) dX12_readsNumber_47 (by decide) ?_
    refine g_iadd dX12_readsNumber_48 ?_
    obtain ⟨v7, ev7, hf⟩ := nm_el hf
    refine g_topI ev7 ?_
    refine g_istore_n (i := 3) (L' := [(3, .int v7), (2, .int y0), (0, rv x0), (1, .int x1)]) dX12_readsNumber_49 rfl (Nat.le_of_ble_eq_true rfl) rfl ?_
    refine g_aload_n (j := 2) dX12_readsNumber_50 rfl rfl ?_
    refine g_iload_n (j := 0) dX12_readsNumber_51 rfl rfl ?_
    obtain ⟨_, h10, hf⟩ := ob hf
    obtain ⟨σ8, v9, eσ8, hf⟩ := cb_el hf
    refine g_callV_i dX12_readsNumber_52 (wX12_endOfDigits _ eσ8) (okX12_endOfDigits _ (by decide) (by decide)) (ckK_el h10) hc16 t_2271 t_2273 s_X12_endOfDigits rfl (Nat.le_trans (cat_le _) (Nat.le_of_ble_eq_true rfl)) rfl ?_
    refine g_istore_n (i := 1) (L' := [(1, .int v9), (3, .int v7), (2, .int y0), (0, rv x0)]) dX12_readsNumber_55 rfl (Nat.le_of_ble_eq_true rfl) (by simp [rv_cat]) ?_
    refine g_iload_n (j := 2) dX12_readsNumber_56 rfl rfl ?_
    refine g_iload_n (j := 0) dX12_readsNumber_57 rfl rfl ?_
    refine g_iload_n (j := 1) dX12_readsNumber_58 rfl rfl ?_
    refine g_isub dX12_readsNumber_59 ?_
    refine g_bipush (v := 6) dX12_readsNumber_60 (by decide) ?_
    refine g_icmp_gt (tgt := 69) dX12_readsNumber_62 (by decide) (fun c11 => ?_) (fun c11 => ?_)
    · rw [if_pos c11] at hf
      refine g_iconst (v := 0) dX12_readsNumber_69 (by decide) ?_
      refine g_sub (L' := [(0, rv x0), (1, .int v9), (3, .int v7)]) [3, 0, 1] rfl ?_
      exact bX12_readsNumber_70 hX1 hX2 hf
    · rw [if_neg c11] at hf
      refine g_iconst (v := 1) dX12_readsNumber_65 (by decide) ?_
      refine g_goto (tgt := 70) dX12_readsNumber_66 (by decide) ?_
      refine g_sub (L' := [(0, rv x0), (1, .int v9), (3, .int v7)]) [3, 0, 1] rfl ?_
      exact bX12_readsNumber_70 hX1 hX2 hf

set_option maxRecDepth 100000 in
set_option maxHeartbeats 4000000 in
theorem wX12_readsNumber (l : Launch) {σ σf : St} {x0 : Nat} {r : Unit} (hf : fX12_readsNumber σ x0 = some (σf, r)) : Con MtX12_readsNumber yX12_readsNumber l σ [rv x0] σf (none) := by
  refine Con.of (by decide +kernel) rfl (fun h => absurd (show false = true from h) (by decide)) (by simp only [sl_n, sl_r, sl_i, sl_l]; exact Nat.le_of_ble_eq_true rfl) ?_
  rw [show lv_args 0 [rv x0] = [(0, rv x0)] by simp only [la_n, la_r, la_i, la_l] <;> rfl]
  have hX1 : ((l, σ, σf, .inl (none)) : Xt).2.2.1 = σf := rfl
  have hX2 : ((l, σ, σf, .inl (none)) : Xt).2.2.2 = .inl (none) := rfl
  unfold fX12_readsNumber at hf
  refine g_aload_n (j := 0) dX12_readsNumber_0 rfl rfl ?_
  refine g_aload_n (j := 0) dX12_readsNumber_1 rfl rfl ?_
  obtain ⟨v1, ev1, hf⟩ := ob hf
  refine g_getI dX12_readsNumber_2 ev1 t_1980 hin16 hc16 (by decide) rfl ?_
  obtain ⟨_, h4, hf⟩ := ob hf
  obtain ⟨σ2, v3, eσ2, hf⟩ := cb_el hf
  refine g_callV_i dX12_readsNumber_5 (wX12_endOfDigits _ eσ2) (okX12_endOfDigits _ (by decide) (by decide)) (ckK_el h4) hc16 t_2271 t_2273 s_X12_endOfDigits rfl (Nat.le_trans (cat_le _) (Nat.le_of_ble_eq_true rfl)) rfl ?_
  refine g_istore_n (i := 1) (L' := [(1, .int v3), (0, rv x0)]) dX12_readsNumber_8 rfl (Nat.le_of_ble_eq_true rfl) (by simp [rv_cat]) ?_
  refine g_iload_n (j := 0) dX12_readsNumber_9 rfl rfl ?_
  refine g_aload_n (j := 1) dX12_readsNumber_10 rfl rfl ?_
  obtain ⟨v5, ev5, hf⟩ := ob hf
  refine g_getI dX12_readsNumber_11 ev5 t_1980 hin16 hc16 (by decide) rfl ?_
  refine g_isub dX12_readsNumber_14 ?_
  refine g_bipush (v := 12) dX12_readsNumber_15 (by decide) ?_
  refine g_icmp_gt (tgt := 24) dX12_readsNumber_17 (by decide) (fun c6 => ?_) (fun c6 => ?_)
  · rw [if_pos c6] at hf
    refine g_iconst (v := 0) dX12_readsNumber_24 (by decide) ?_
    refine g_sub (L' := [(0, rv x0), (1, .int v3)]) [1, 0] rfl ?_
    exact bX12_readsNumber_25 hX1 hX2 hf
  · rw [if_neg c6] at hf
    refine g_iconst (v := 1) dX12_readsNumber_20 (by decide) ?_
    refine g_goto (tgt := 25) dX12_readsNumber_21 (by decide) ?_
    refine g_sub (L' := [(0, rv x0), (1, .int v3)]) [1, 0] rfl ?_
    exact bX12_readsNumber_25 hX1 hX2 hf

theorem okX12_readsNumber (M : Mt) (h1 : 5 + 1 ≤ M.2.2.2.2.1) (h2 : 8 + (5 + 11) + 169 ≤ M.2.2.2.2.2.1) : CallOk M MtX12_readsNumber yX12_readsNumber 0 := ⟨t_2270, h1, h2, ⟨by decide, by decide⟩, by decide +kernel, t_16⟩
abbrev MtX12_isSign : Mt := (cX12_isSign, 1, "ExactlySaidModel", (Option.some Jvm.ClassFile.FieldType.boolean), 1, 84, false)
set_option maxRecDepth 100000 in
set_option maxHeartbeats 4000000 in
theorem bX12_isSign_66 {X : Xt} {σf : St} {r : Int32} (hX1 : X.2.2.1 = σf) (hX2 : X.2.2.2 = .inl (some (.int r))) {σ : St} (hf : fX12_isSign_66 σ  = some (σf, r)) : G MtX12_isSign X σ 66 [] [] := by
  unfold fX12_isSign_66 at hf
  refine g_iconst (v := 1) dX12_isSign_66 (by decide) ?_
  refine g_goto (tgt := 71) dX12_isSign_67 (by decide) ?_
  exact g_iret dX12_isSign_71 rfl (by decide) hX2 hX1 hf

set_option maxRecDepth 100000 in
set_option maxHeartbeats 4000000 in
theorem wX12_isSign (l : Launch) {σ σf : St} {x0 : Int32} {r : Int32} (hf : fX12_isSign σ x0 = some (σf, r)) : Con MtX12_isSign yX12_isSign l σ [.int x0] σf (some (.int r)) := by
  refine Con.of (by decide +kernel) rfl (fun h => absurd (show false = true from h) (by decide)) (by simp only [sl_n, sl_r, sl_i, sl_l]; exact Nat.le_of_ble_eq_true rfl) ?_
  rw [show lv_args 0 [.int x0] = [(0, .int x0)] by simp only [la_n, la_r, la_i, la_l] <;> rfl]
  have hX1 : ((l, σ, σf, .inl (some (.int r))) : Xt).2.2.1 = σf := rfl
  have hX2 : ((l, σ, σf, .inl (some (.int r))) : Xt).2.2.2 = .inl (some (.int r)) := rfl
  unfold fX12_isSign at hf
  refine g_iload_n (j := 0) dX12_isSign_0 rfl rfl ?_
  refine g_bipush (v := 61) dX12_isSign_1 (by decide) ?_
  refine g_icmp_eq (tgt := 66) dX12_isSign_3 (by decide) (fun c1 => ?_) (fun c1 => ?_)
  · rw [if_pos c1] at hf
    refine g_sub (L' := []) [] rfl ?_
    exact bX12_isSign_66 hX1 hX2 hf
  · rw [if_neg c1] at hf
    refine g_iload_n (j := 0) dX12_isSign_6 rfl rfl ?_
    refine g_bipush (v := 40) dX12_isSign_7 (by decide) ?_
    refine g_icmp_eq (tgt := 66) dX12_isSign_9 (by decide) (fun c2 => ?_) (fun c2 => ?_)
    · rw [if_pos c2] at hf
      refine g_sub (L' := []) [] rfl ?_
      exact bX12_isSign_66 hX1 hX2 hf
    · rw [if_neg c2] at hf
      refine g_iload_n (j := 0) dX12_isSign_12 rfl rfl ?_
      refine g_bipush (v := 41) dX12_isSign_13 (by decide) ?_
      refine g_icmp_eq (tgt := 66) dX12_isSign_15 (by decide) (fun c3 => ?_) (fun c3 => ?_)
      · rw [if_pos c3] at hf
        refine g_sub (L' := []) [] rfl ?_
        exact bX12_isSign_66 hX1 hX2 hf
      · rw [if_neg c3] at hf
        refine g_iload_n (j := 0) dX12_isSign_18 rfl rfl ?_
        refine g_bipush (v := 44) dX12_isSign_19 (by decide) ?_
        refine g_icmp_eq (tgt := 66) dX12_isSign_21 (by decide) (fun c4 => ?_) (fun c4 => ?_)
        · rw [if_pos c4] at hf
          refine g_sub (L' := []) [] rfl ?_
          exact bX12_isSign_66 hX1 hX2 hf
        · rw [if_neg c4] at hf
          refine g_iload_n (j := 0) dX12_isSign_24 rfl rfl ?_
          refine g_bipush (v := 43) dX12_isSign_25 (by decide) ?_
          refine g_icmp_eq (tgt := 66) dX12_isSign_27 (by decide) (fun c5 => ?_) (fun c5 => ?_)
          · rw [if_pos c5] at hf
            refine g_sub (L' := []) [] rfl ?_
            exact bX12_isSign_66 hX1 hX2 hf
          · rw [if_neg c5] at hf
            refine g_iload_n (j := 0) dX12_isSign_30 rfl rfl ?_
            refine g_bipush (v := 45) dX12_isSign_31 (by decide) ?_
            refine g_icmp_eq (tgt := 66) dX12_isSign_33 (by decide) (fun c6 => ?_) (fun c6 => ?_)
            · rw [if_pos c6] at hf
              refine g_sub (L' := []) [] rfl ?_
              exact bX12_isSign_66 hX1 hX2 hf
            · rw [if_neg c6] at hf
              refine g_iload_n (j := 0) dX12_isSign_36 rfl rfl ?_
              refine g_bipush (v := 42) dX12_isSign_37 (by decide) ?_
              refine g_icmp_eq (tgt := 66) dX12_isSign_39 (by decide) (fun c7 => ?_) (fun c7 => ?_)
              · rw [if_pos c7] at hf
                refine g_sub (L' := []) [] rfl ?_
                exact bX12_isSign_66 hX1 hX2 hf
              · rw [if_neg c7] at hf
                refine g_iload_n (j := 0) dX12_isSign_42 rfl rfl ?_
                refine g_bipush (v := 47) dX12_isSign_43 (by decide) ?_
                refine g_icmp_eq (tgt := 66) dX12_isSign_45 (by decide) (fun c8 => ?_) (fun c8 => ?_)
                · rw [if_pos c8] at hf
                  refine g_sub (L' := []) [] rfl ?_
                  exact bX12_isSign_66 hX1 hX2 hf
                · rw [if_neg c8] at hf
                  refine g_iload_n (j := 0) dX12_isSign_48 rfl rfl ?_
                  refine g_bipush (v := 37) dX12_isSign_49 (by decide) ?_
                  refine g_icmp_eq (tgt := 66) dX12_isSign_51 (by decide) (fun c9 => ?_) (fun c9 => ?_)
                  · rw [if_pos c9] at hf
                    refine g_sub (L' := []) [] rfl ?_
                    exact bX12_isSign_66 hX1 hX2 hf
                  · rw [if_neg c9] at hf
                    refine g_iload_n (j := 0) dX12_isSign_54 rfl rfl ?_
                    refine g_bipush (v := 94) dX12_isSign_55 (by decide) ?_
                    refine g_icmp_eq (tgt := 66) dX12_isSign_57 (by decide) (fun c10 => ?_) (fun c10 => ?_)
                    · rw [if_pos c10] at hf
                      refine g_sub (L' := []) [] rfl ?_
                      exact bX12_isSign_66 hX1 hX2 hf
                    · rw [if_neg c10] at hf
                      refine g_iload_n (j := 0) dX12_isSign_60 rfl rfl ?_
                      refine g_bipush (v := 33) dX12_isSign_61 (by decide) ?_
                      refine g_icmp_ne (tgt := 70) dX12_isSign_63 (by decide) (fun c11 => ?_) (fun c11 => ?_)
                      · rw [if_neg c11] at hf
                        refine g_iconst (v := 0) dX12_isSign_70 (by decide) ?_
                        exact g_iret dX12_isSign_71 rfl (by decide) hX2 hX1 hf
                      · rw [if_pos c11] at hf
                        refine g_sub (L' := []) [] rfl ?_
                        exact bX12_isSign_66 hX1 hX2 hf

theorem okX12_isSign (M : Mt) (h1 : 1 + 1 ≤ M.2.2.2.2.1) (h2 : 8 + (1 + 11) + 84 ≤ M.2.2.2.2.2.1) : CallOk M MtX12_isSign yX12_isSign 1 := ⟨t_2281, h1, h2, ⟨by decide, by decide⟩, by decide +kernel, t_16⟩
abbrev MtX12_reads : Mt := (cX12_reads, 1, "ExactlySaidModel", none, 6, 193, false)
set_option maxRecDepth 100000 in
set_option maxHeartbeats 4000000 in
theorem bX12_reads_26 {X : Xt} {σf : St} {r : Unit} (hX1 : X.2.2.1 = σf) (hX2 : X.2.2.2 = .inl (none)) {k0 : St → Nat → Option (St × Unit)} (hk0 : ∀ (σ : St) (x0 : Nat), k0 σ x0 = some (σf, r) → G MtX12_reads X σ 0 [(0, rv x0)] []) {σ : St} {x0 : Nat} (hf : fX12_reads_26 k0 σ x0 = some (σf, r)) : G MtX12_reads X σ 26 [(0, rv x0)] [] := by
  unfold fX12_reads_26 at hf
  refine g_aload_n (j := 0) dX12_reads_26 rfl rfl ?_
  refine g_dup dX12_reads_27 (rv_cat _) ?_
  obtain ⟨v1, ev1, hf⟩ := ob hf
  refine g_getI dX12_reads_28 ev1 t_1980 hin16 hc16 (by decide) rfl ?_
  refine g_iconst (v := 1) dX12_reads_31 (by decide) ?_
  refine g_iadd dX12_reads_32 ?_
  obtain ⟨σ2, eσ2, hf⟩ := ob hf
  refine g_putI dX12_reads_33 eσ2 (Or.inl t_1980) hin16 hc16 (by decide) hty16 hnm16 (Or.inl rfl) rfl rfl rfl ?_
  refine g_goto (tgt := 0) dX12_reads_36 (by decide) ?_
  exact hk0 _ _ hf

set_option maxRecDepth 100000 in
set_option maxHeartbeats 4000000 in
theorem bX12_reads_141 {X : Xt} {σf : St} {r : Unit} (hX1 : X.2.2.1 = σf) (hX2 : X.2.2.2 = .inl (none)) {σ : St} {x0 : Nat} {y0 : Nat} {y1 : Int32} (hf : fX12_reads_141 σ x0 y0 y1 = some (σf, r)) : G MtX12_reads X σ 141 [(0, rv x0)] [.int y1, rv y0] := by
  unfold fX12_reads_141 at hf
  obtain ⟨σ1, eσ1, hf⟩ := ob hf
  refine g_putI dX12_reads_141 eσ1 (Or.inl t_1977) hin16 hc16 (by decide) hty16 hnm16 (Or.inl rfl) rfl rfl rfl ?_
  refine g_aload_n (j := 0) dX12_reads_144 rfl rfl ?_
  refine g_dup dX12_reads_145 (rv_cat _) ?_
  obtain ⟨v2, ev2, hf⟩ := ob hf
  refine g_getI dX12_reads_146 ev2 t_1980 hin16 hc16 (by decide) rfl ?_
  refine g_iconst (v := 1) dX12_reads_149 (by decide) ?_
  refine g_iadd dX12_reads_150 ?_
  obtain ⟨σ3, eσ3, hf⟩ := ob hf
  refine g_putI dX12_reads_151 eσ3 (Or.inl t_1980) hin16 hc16 (by decide) hty16 hnm16 (Or.inl rfl) rfl rfl rfl ?_
  exact g_vret dX12_reads_154 rfl hX2 hX1 hf

set_option maxRecDepth 100000 in
set_option maxHeartbeats 4000000 in
theorem bX12_reads_0 {X : Xt} {σf : St} {r : Unit} (hX1 : X.2.2.1 = σf) (hX2 : X.2.2.2 = .inl (none)) : ∀ (n : Nat) (σ : St) (x0 : Nat), fX12_reads_0 n σ x0 = some (σf, r) → G MtX12_reads X σ 0 [(0, rv x0)] [] := by
  intro n
  induction n with
  | zero => intro σ x0 hf; cases hf
  | succ n ih =>
    intro σ x0 hf
    rw [fX12_reads_0] at hf
    refine g_aload_n (j := 0) dX12_reads_0 rfl rfl ?_
    refine g_aload_n (j := 0) dX12_reads_1 rfl rfl ?_
    obtain ⟨v1, ev1, hf⟩ := ob hf
    refine g_getI dX12_reads_2 ev1 t_1980 hin16 hc16 (by decide) rfl ?_
    refine g_bipush (v := 32) dX12_reads_5 (by decide) ?_
    obtain ⟨_, h4, hf⟩ := ob hf
    obtain ⟨σ2, v3, eσ2, hf⟩ := cb_el hf
    refine g_callV_i dX12_reads_7 (wX12_hasByte _ eσ2) (okX12_hasByte _ (by decide) (by decide)) (ckK_el h4) hc16 t_2253 t_2255 s_X12_hasByte rfl (Nat.le_trans (cat_le _) (Nat.le_of_ble_eq_true rfl)) rfl ?_
    refine g_if_ne (tgt := 26) dX12_reads_10 (by decide) (fun c5 => ?_) (fun c5 => ?_)
    · rw [if_neg c5] at hf
      exact bX12_reads_26 hX1 hX2 (fun σ x0 hf => ih σ x0 hf) hf
    · rw [if_pos c5] at hf
      refine g_aload_n (j := 0) dX12_reads_13 rfl rfl ?_
      refine g_aload_n (j := 0) dX12_reads_14 rfl rfl ?_
      obtain ⟨v6, ev6, hf⟩ := ob hf
      refine g_getI dX12_reads_15 ev6 t_1980 hin16 hc16 (by decide) rfl ?_
      refine g_bipush (v := 10) dX12_reads_18 (by decide) ?_
      obtain ⟨_, h9, hf⟩ := ob hf
      obtain ⟨σ7, v8, eσ7, hf⟩ := cb_el hf
      refine g_callV_i dX12_reads_20 (wX12_hasByte _ eσ7) (okX12_hasByte _ (by decide) (by decide)) (ckK_el h9) hc16 t_2253 t_2255 s_X12_hasByte rfl (Nat.le_trans (cat_le _) (Nat.le_of_ble_eq_true rfl)) rfl ?_
      refine g_if_eq (tgt := 39) dX12_reads_23 (by decide) (fun c10 => ?_) (fun c10 => ?_)
      · rw [if_pos c10] at hf
        refine g_aload_n (j := 0) dX12_reads_39 rfl rfl ?_
        refine g_aload_n (j := 0) dX12_reads_40 rfl rfl ?_
        obtain ⟨v11, ev11, hf⟩ := ob hf
        refine g_getI dX12_reads_41 ev11 t_1980 hin16 hc16 (by decide) rfl ?_
        obtain ⟨σ12, eσ12, hf⟩ := ob hf
        refine g_putI dX12_reads_44 eσ12 (Or.inl t_1978) hin16 hc16 (by decide) hty16 hnm16 (Or.inl rfl) rfl rfl rfl ?_
        refine g_aload_n (j := 0) dX12_reads_47 rfl rfl ?_
        refine g_iconst (v := 0) dX12_reads_48 (by decide) ?_
        obtain ⟨σ13, eσ13, hf⟩ := ob hf
        refine g_putI dX12_reads_49 eσ13 (Or.inl t_1977) hin16 hc16 (by decide) hty16 hnm16 (Or.inl rfl) rfl rfl rfl ?_
        refine g_aload_n (j := 0) dX12_reads_52 rfl rfl ?_
        obtain ⟨v14, ev14, hf⟩ := ob hf
        refine g_getI dX12_reads_53 ev14 t_1980 hin16 hc16 (by decide) rfl ?_
        refine g_aload_n (j := 0) dX12_reads_56 rfl rfl ?_
        obtain ⟨v15, ev15, hf⟩ := ob hf
        refine g_getI dX12_reads_57 ev15 t_1975 hin16 hc16 (by decide) rfl ?_
        refine g_icmp_ne (tgt := 64) dX12_reads_60 (by decide) (fun c16 => ?_) (fun c16 => ?_)
        · rw [if_neg c16] at hf
          refine g_aload_n (j := 0) dX12_reads_64 rfl rfl ?_
          obtain ⟨v17, ev17, hf⟩ := ob hf
          refine g_getF dX12_reads_65 ev17 t_1974 hin16 hc16 (by decide) rfl ?_
          refine g_aload_n (j := 0) dX12_reads_68 rfl rfl ?_
          obtain ⟨v18, ev18, hf⟩ := ob hf
          refine g_getI dX12_reads_69 ev18 t_1980 hin16 hc16 (by decide) rfl ?_
          obtain ⟨v19, ev19, hf⟩ := ob hf
          refine g_iald dX12_reads_72 ev19 ?_
          refine g_bipush (v := 97) dX12_reads_73 (by decide) ?_
          refine g_bipush (v := 122) dX12_reads_75 (by decide) ?_
          obtain ⟨σ20, v21, eσ20, hf⟩ := cb_el hf
          refine g_callS_i dX12_reads_77 (wX12_in _ eσ20) (okX12_in _ (by decide) (by decide)) t_2257 t_2258 rfl (Nat.le_trans (cat_le _) (Nat.le_of_ble_eq_true rfl)) rfl ?_
          refine g_if_eq (tgt := 90) dX12_reads_80 (by decide) (fun c22 => ?_) (fun c22 => ?_)
          · rw [if_pos c22] at hf
            refine g_aload_n (j := 0) dX12_reads_90 rfl rfl ?_
            obtain ⟨v23, ev23, hf⟩ := ob hf
            refine g_getF dX12_reads_91 ev23 t_1974 hin16 hc16 (by decide) rfl ?_
            refine g_aload_n (j := 0) dX12_reads_94 rfl rfl ?_
            obtain ⟨v24, ev24, hf⟩ := ob hf
            refine g_getI dX12_reads_95 ev24 t_1980 hin16 hc16 (by decide) rfl ?_
            obtain ⟨v25, ev25, hf⟩ := ob hf
            refine g_iald dX12_reads_98 ev25 ?_
            obtain ⟨σ26, v27, eσ26, hf⟩ := cb_el hf
            refine g_callS_i dX12_reads_99 (wX12_isDigit _ eσ26) (okX12_isDigit _ (by decide) (by decide)) t_2264 t_2265 rfl (Nat.le_trans (cat_le _) (Nat.le_of_ble_eq_true rfl)) rfl ?_
            refine g_if_eq (tgt := 112) dX12_reads_102 (by decide) (fun c28 => ?_) (fun c28 => ?_)
            · rw [if_pos c28] at hf
              refine g_aload_n (j := 0) dX12_reads_112 rfl rfl ?_
              refine g_aload_n (j := 0) dX12_reads_113 rfl rfl ?_
              obtain ⟨v29, ev29, hf⟩ := ob hf
              refine g_getF dX12_reads_114 ev29 t_1974 hin16 hc16 (by decide) rfl ?_
              refine g_aload_n (j := 0) dX12_reads_117 rfl rfl ?_
              obtain ⟨v30, ev30, hf⟩ := ob hf
              refine g_getI dX12_reads_118 ev30 t_1980 hin16 hc16 (by decide) rfl ?_
              obtain ⟨v31, ev31, hf⟩ := ob hf
              refine g_iald dX12_reads_121 ev31 ?_
              obtain ⟨σ32, eσ32, hf⟩ := ob hf
              refine g_putI dX12_reads_122 eσ32 (Or.inl t_1979) hin16 hc16 (by decide) hty16 hnm16 (Or.inl rfl) rfl rfl rfl ?_
              refine g_aload_n (j := 0) dX12_reads_125 rfl rfl ?_
              refine g_aload_n (j := 0) dX12_reads_126 rfl rfl ?_
              obtain ⟨v33, ev33, hf⟩ := ob hf
              refine g_getI dX12_reads_127 ev33 t_1979 hin16 hc16 (by decide) rfl ?_
              obtain ⟨σ34, v35, eσ34, hf⟩ := cb_el hf
              refine g_callS_i dX12_reads_130 (wX12_isSign _ eσ34) (okX12_isSign _ (by decide) (by decide)) t_2279 t_2280 rfl (Nat.le_trans (cat_le _) (Nat.le_of_ble_eq_true rfl)) rfl ?_
              refine g_if_eq (tgt := 140) dX12_reads_133 (by decide) (fun c36 => ?_) (fun c36 => ?_)
              · rw [if_pos c36] at hf
                refine g_iconst (v := 4) dX12_reads_140 (by decide) ?_
                exact bX12_reads_141 hX1 hX2 hf
              · rw [if_neg c36] at hf
                refine g_iconst (v := 1) dX12_reads_136 (by decide) ?_
                refine g_goto (tgt := 141) dX12_reads_137 (by decide) ?_
                exact bX12_reads_141 hX1 hX2 hf
            · rw [if_neg c28] at hf
              refine g_aload_n (j := 0) dX12_reads_105 rfl rfl ?_
              obtain ⟨_, h39, hf⟩ := ob hf
              obtain ⟨σ37, v38, eσ37, hf⟩ := cb_el hf
              refine g_callV_v dX12_reads_106 (wX12_readsNumber _ eσ37) (okX12_readsNumber _ (by decide) (by decide)) (ckK_el h39) hc16 t_2267 t_2269 s_X12_readsNumber rfl (Nat.le_trans (cat_le _) (Nat.le_of_ble_eq_true rfl)) rfl ?_
              refine g_goto (tgt := 154) dX12_reads_109 (by decide) ?_
              exact g_vret dX12_reads_154 rfl hX2 hX1 hf
          · rw [if_neg c22] at hf
            refine g_aload_n (j := 0) dX12_reads_83 rfl rfl ?_
            obtain ⟨_, h42, hf⟩ := ob hf
            obtain ⟨σ40, v41, eσ40, hf⟩ := cb_el hf
            refine g_callV_v dX12_reads_84 (wX12_readsWord _ eσ40) (okX12_readsWord _ (by decide) (by decide)) (ckK_el h42) hc16 t_2260 t_2262 s_X12_readsWord rfl (Nat.le_trans (cat_le _) (Nat.le_of_ble_eq_true rfl)) rfl ?_
            refine g_goto (tgt := 154) dX12_reads_87 (by decide) ?_
            exact g_vret dX12_reads_154 rfl hX2 hX1 hf
        · rw [if_pos c16] at hf
          exact g_vret dX12_reads_63 rfl hX2 hX1 hf
      · rw [if_neg c10] at hf
        exact bX12_reads_26 hX1 hX2 (fun σ x0 hf => ih σ x0 hf) hf

set_option maxRecDepth 100000 in
set_option maxHeartbeats 4000000 in
theorem wX12_reads (l : Launch) {σ σf : St} {x0 : Nat} {r : Unit} (hf : fX12_reads σ x0 = some (σf, r)) : Con MtX12_reads yX12_reads l σ [rv x0] σf (none) := by
  refine Con.of (by decide +kernel) rfl (fun h => absurd (show false = true from h) (by decide)) (by simp only [sl_n, sl_r, sl_i, sl_l]; exact Nat.le_of_ble_eq_true rfl) ?_
  rw [show lv_args 0 [rv x0] = [(0, rv x0)] by simp only [la_n, la_r, la_i, la_l] <;> rfl]
  exact bX12_reads_0 rfl rfl FU _ _ hf

theorem okX12_reads (M : Mt) (h1 : 6 + 1 ≤ M.2.2.2.2.1) (h2 : 8 + (1 + 11) + 193 ≤ M.2.2.2.2.2.1) : CallOk M MtX12_reads yX12_reads 0 := ⟨t_2252, h1, h2, ⟨by decide, by decide⟩, by decide +kernel, t_16⟩
abbrev MtX12_isNow : Mt := (cX12_isNow, 2, "ExactlySaidModel", (Option.some Jvm.ClassFile.FieldType.boolean), 1, 84, false)
set_option maxRecDepth 100000 in
set_option maxHeartbeats 4000000 in
theorem wX12_isNow (l : Launch) {σ σf : St} {x0 : Nat} {x1 : Int32} {r : Int32} (hf : fX12_isNow σ x0 x1 = some (σf, r)) : Con MtX12_isNow yX12_isNow l σ [rv x0, .int x1] σf (some (.int r)) := by
  refine Con.of (by decide +kernel) rfl (fun h => absurd (show false = true from h) (by decide)) (by simp only [sl_n, sl_r, sl_i, sl_l]; exact Nat.le_of_ble_eq_true rfl) ?_
  rw [show lv_args 0 [rv x0, .int x1] = [(0, rv x0), (1, .int x1)] by simp only [la_n, la_r, la_i, la_l] <;> rfl]
  have hX1 : ((l, σ, σf, .inl (some (.int r))) : Xt).2.2.1 = σf := rfl
  have hX2 : ((l, σ, σf, .inl (some (.int r))) : Xt).2.2.2 = .inl (some (.int r)) := rfl
  unfold fX12_isNow at hf
  refine g_aload_n (j := 0) dX12_isNow_0 rfl rfl ?_
  obtain ⟨v1, ev1, hf⟩ := ob hf
  refine g_getI dX12_isNow_1 ev1 t_1977 hin16 hc16 (by decide) rfl ?_
  refine g_iconst (v := 1) dX12_isNow_4 (by decide) ?_
  refine g_icmp_ne (tgt := 20) dX12_isNow_5 (by decide) (fun c2 => ?_) (fun c2 => ?_)
  · rw [if_neg c2] at hf
    refine g_iconst (v := 0) dX12_isNow_20 (by decide) ?_
    exact g_iret dX12_isNow_21 rfl (by decide) hX2 hX1 hf
  · rw [if_pos c2] at hf
    refine g_aload_n (j := 0) dX12_isNow_8 rfl rfl ?_
    obtain ⟨v3, ev3, hf⟩ := ob hf
    refine g_getI dX12_isNow_9 ev3 t_1979 hin16 hc16 (by decide) rfl ?_
    refine g_iload_n (j := 1) dX12_isNow_12 rfl rfl ?_
    refine g_icmp_ne (tgt := 20) dX12_isNow_13 (by decide) (fun c4 => ?_) (fun c4 => ?_)
    · rw [if_neg c4] at hf
      refine g_iconst (v := 0) dX12_isNow_20 (by decide) ?_
      exact g_iret dX12_isNow_21 rfl (by decide) hX2 hX1 hf
    · rw [if_pos c4] at hf
      refine g_iconst (v := 1) dX12_isNow_16 (by decide) ?_
      refine g_goto (tgt := 21) dX12_isNow_17 (by decide) ?_
      exact g_iret dX12_isNow_21 rfl (by decide) hX2 hX1 hf

theorem okX12_isNow (M : Mt) (h1 : 1 + 1 ≤ M.2.2.2.2.1) (h2 : 8 + (2 + 11) + 84 ≤ M.2.2.2.2.2.1) : CallOk M MtX12_isNow yX12_isNow 1 := ⟨t_2285, h1, h2, ⟨by decide, by decide⟩, by decide +kernel, t_16⟩
abbrev MtX12_isTelling : Mt := (cX12_isTelling, 1, "ExactlySaidModel", (Option.some Jvm.ClassFile.FieldType.boolean), 7, 213, false)
set_option maxRecDepth 100000 in
set_option maxHeartbeats 4000000 in
theorem bX12_isTelling_76 {X : Xt} {σf : St} {r : Int32} (hX1 : X.2.2.1 = σf) (hX2 : X.2.2.2 = .inl (some (.int r))) : ∀ (n : Nat) (σ : St) (x0 : Nat), fX12_isTelling_76 n σ x0 = some (σf, r) → G MtX12_isTelling X σ 76 [(0, rv x0)] [] := by
  intro n
  induction n with
  | zero => intro σ x0 hf; cases hf
  | succ n ih =>
    intro σ x0 hf
    rw [fX12_isTelling_76] at hf
    refine g_aload_n (j := 0) dX12_isTelling_76 rfl rfl ?_
    obtain ⟨_, h3, hf⟩ := ob hf
    obtain ⟨σ1, v2, eσ1, hf⟩ := cb_el hf
    refine g_callV_v dX12_isTelling_77 (wX12_reads _ eσ1) (okX12_reads _ (by decide) (by decide)) (ckK_el h3) hc16 t_2249 t_2251 s_X12_reads rfl (Nat.le_trans (cat_le _) (Nat.le_of_ble_eq_true rfl)) rfl ?_
    refine g_aload_n (j := 0) dX12_isTelling_80 rfl rfl ?_
    obtain ⟨v4, ev4, hf⟩ := ob hf
    refine g_getI dX12_isTelling_81 ev4 t_1977 hin16 hc16 (by decide) rfl ?_
    refine g_iconst (v := 3) dX12_isTelling_84 (by decide) ?_
    refine g_icmp_eq (tgt := 90) dX12_isTelling_85 (by decide) (fun c5 => ?_) (fun c5 => ?_)
    · rw [if_pos c5] at hf
      refine g_aload_n (j := 0) dX12_isTelling_90 rfl rfl ?_
      refine g_dup dX12_isTelling_91 (rv_cat _) ?_
      obtain ⟨v6, ev6, hf⟩ := ob hf
      refine g_getI dX12_isTelling_92 ev6 t_2002 hin16 hc16 (by decide) rfl ?_
      refine g_iconst (v := 1) dX12_isTelling_95 (by decide) ?_
      refine g_iadd dX12_isTelling_96 ?_
      obtain ⟨σ7, eσ7, hf⟩ := ob hf
      refine g_putI dX12_isTelling_97 eσ7 (Or.inl t_2002) hin16 hc16 (by decide) hty16 hnm16 (Or.inl rfl) rfl rfl rfl ?_
      refine g_aload_n (j := 0) dX12_isTelling_100 rfl rfl ?_
      obtain ⟨_, h10, hf⟩ := ob hf
      obtain ⟨σ8, v9, eσ8, hf⟩ := cb_el hf
      refine g_callV_v dX12_isTelling_101 (wX12_reads _ eσ8) (okX12_reads _ (by decide) (by decide)) (ckK_el h10) hc16 t_2249 t_2251 s_X12_reads rfl (Nat.le_trans (cat_le _) (Nat.le_of_ble_eq_true rfl)) rfl ?_
      refine g_aload_n (j := 0) dX12_isTelling_104 rfl rfl ?_
      refine g_bipush (v := 44) dX12_isTelling_105 (by decide) ?_
      obtain ⟨_, h13, hf⟩ := ob hf
      obtain ⟨σ11, v12, eσ11, hf⟩ := cb_el hf
      refine g_callV_i dX12_isTelling_107 (wX12_isNow _ eσ11) (okX12_isNow _ (by decide) (by decide)) (ckK_el h13) hc16 t_2282 t_2284 s_X12_isNow rfl (Nat.le_trans (cat_le _) (Nat.le_of_ble_eq_true rfl)) rfl ?_
      refine g_if_ne (tgt := 76) dX12_isTelling_110 (by decide) (fun c14 => ?_) (fun c14 => ?_)
      · rw [if_neg c14] at hf
        exact ih _ _ hf
      · rw [if_pos c14] at hf
        refine g_aload_n (j := 0) dX12_isTelling_113 rfl rfl ?_
        refine g_bipush (v := 41) dX12_isTelling_114 (by decide) ?_
        obtain ⟨_, h17, hf⟩ := ob hf
        obtain ⟨σ15, v16, eσ15, hf⟩ := cb_el hf
        refine g_callV_i dX12_isTelling_116 (wX12_isNow _ eσ15) (okX12_isNow _ (by decide) (by decide)) (ckK_el h17) hc16 t_2282 t_2284 s_X12_isNow rfl (Nat.le_trans (cat_le _) (Nat.le_of_ble_eq_true rfl)) rfl ?_
        refine g_if_ne (tgt := 124) dX12_isTelling_119 (by decide) (fun c18 => ?_) (fun c18 => ?_)
        · rw [if_neg c18] at hf
          refine g_aload_n (j := 0) dX12_isTelling_124 rfl rfl ?_
          obtain ⟨_, h21, hf⟩ := ob hf
          obtain ⟨σ19, v20, eσ19, hf⟩ := cb_el hf
          refine g_callV_v dX12_isTelling_125 (wX12_reads _ eσ19) (okX12_reads _ (by decide) (by decide)) (ckK_el h21) hc16 t_2249 t_2251 s_X12_reads rfl (Nat.le_trans (cat_le _) (Nat.le_of_ble_eq_true rfl)) rfl ?_
          refine g_aload_n (j := 0) dX12_isTelling_128 rfl rfl ?_
          refine g_bipush (v := 61) dX12_isTelling_129 (by decide) ?_
          obtain ⟨_, h24, hf⟩ := ob hf
          obtain ⟨σ22, v23, eσ22, hf⟩ := cb_el hf
          refine g_callV_i dX12_isTelling_131 (wX12_isNow _ eσ22) (okX12_isNow _ (by decide) (by decide)) (ckK_el h24) hc16 t_2282 t_2284 s_X12_isNow rfl (Nat.le_trans (cat_le _) (Nat.le_of_ble_eq_true rfl)) rfl ?_
          obtain ⟨_, h25, hf⟩ := ob hf
          exact g_iret dX12_isTelling_134 rfl (ckZ_el h25) hX2 hX1 hf
        · rw [if_pos c18] at hf
          refine g_iconst (v := 0) dX12_isTelling_122 (by decide) ?_
          exact g_iret dX12_isTelling_123 rfl (by decide) hX2 hX1 hf
    · rw [if_neg c5] at hf
      refine g_iconst (v := 0) dX12_isTelling_88 (by decide) ?_
      exact g_iret dX12_isTelling_89 rfl (by decide) hX2 hX1 hf

set_option maxRecDepth 100000 in
set_option maxHeartbeats 4000000 in
theorem wX12_isTelling (l : Launch) {σ σf : St} {x0 : Nat} {r : Int32} (hf : fX12_isTelling σ x0 = some (σf, r)) : Con MtX12_isTelling yX12_isTelling l σ [rv x0] σf (some (.int r)) := by
  refine Con.of (by decide +kernel) rfl (fun h => absurd (show false = true from h) (by decide)) (by simp only [sl_n, sl_r, sl_i, sl_l]; exact Nat.le_of_ble_eq_true rfl) ?_
  rw [show lv_args 0 [rv x0] = [(0, rv x0)] by simp only [la_n, la_r, la_i, la_l] <;> rfl]
  have hX1 : ((l, σ, σf, .inl (some (.int r))) : Xt).2.2.1 = σf := rfl
  have hX2 : ((l, σ, σf, .inl (some (.int r))) : Xt).2.2.2 = .inl (some (.int r)) := rfl
  unfold fX12_isTelling at hf
  refine g_aload_n (j := 0) dX12_isTelling_0 rfl rfl ?_
  refine g_iconst (v := 0) dX12_isTelling_1 (by decide) ?_
  obtain ⟨σ1, eσ1, hf⟩ := ob hf
  refine g_putI dX12_isTelling_2 eσ1 (Or.inl t_1980) hin16 hc16 (by decide) hty16 hnm16 (Or.inl rfl) rfl rfl rfl ?_
  refine g_aload_n (j := 0) dX12_isTelling_5 rfl rfl ?_
  obtain ⟨_, h4, hf⟩ := ob hf
  obtain ⟨σ2, v3, eσ2, hf⟩ := cb_el hf
  refine g_callV_v dX12_isTelling_6 (wX12_reads _ eσ2) (okX12_reads _ (by decide) (by decide)) (ckK_el h4) hc16 t_2249 t_2251 s_X12_reads rfl (Nat.le_trans (cat_le _) (Nat.le_of_ble_eq_true rfl)) rfl ?_
  refine g_aload_n (j := 0) dX12_isTelling_9 rfl rfl ?_
  obtain ⟨v5, ev5, hf⟩ := ob hf
  refine g_getI dX12_isTelling_10 ev5 t_1977 hin16 hc16 (by decide) rfl ?_
  refine g_iconst (v := 3) dX12_isTelling_13 (by decide) ?_
  refine g_icmp_eq (tgt := 19) dX12_isTelling_14 (by decide) (fun c6 => ?_) (fun c6 => ?_)
  · rw [if_pos c6] at hf
    refine g_aload_n (j := 0) dX12_isTelling_19 rfl rfl ?_
    refine g_aload_n (j := 0) dX12_isTelling_20 rfl rfl ?_
    obtain ⟨v7, ev7, hf⟩ := ob hf
    refine g_getI dX12_isTelling_21 ev7 t_1979 hin16 hc16 (by decide) rfl ?_
    obtain ⟨σ8, eσ8, hf⟩ := ob hf
    refine g_putI dX12_isTelling_24 eσ8 (Or.inl t_2000) hin16 hc16 (by decide) hty16 hnm16 (Or.inl rfl) rfl rfl rfl ?_
    refine g_aload_n (j := 0) dX12_isTelling_27 rfl rfl ?_
    refine g_aload_n (j := 0) dX12_isTelling_28 rfl rfl ?_
    obtain ⟨v9, ev9, hf⟩ := ob hf
    refine g_getI dX12_isTelling_29 ev9 t_1978 hin16 hc16 (by decide) rfl ?_
    obtain ⟨σ10, eσ10, hf⟩ := ob hf
    refine g_putI dX12_isTelling_32 eσ10 (Or.inl t_2001) hin16 hc16 (by decide) hty16 hnm16 (Or.inl rfl) rfl rfl rfl ?_
    refine g_aload_n (j := 0) dX12_isTelling_35 rfl rfl ?_
    refine g_iconst (v := 0) dX12_isTelling_36 (by decide) ?_
    obtain ⟨σ11, eσ11, hf⟩ := ob hf
    refine g_putI dX12_isTelling_37 eσ11 (Or.inl t_2002) hin16 hc16 (by decide) hty16 hnm16 (Or.inl rfl) rfl rfl rfl ?_
    refine g_aload_n (j := 0) dX12_isTelling_40 rfl rfl ?_
    refine g_iconst (v := 1) dX12_isTelling_41 (by decide) ?_
    obtain ⟨σ12, eσ12, hf⟩ := ob hf
    refine g_putI dX12_isTelling_42 eσ12 (Or.inl t_1999) hin16 hc16 (by decide) hty16 hnm16 (Or.inl rfl) rfl rfl rfl ?_
    refine g_aload_n (j := 0) dX12_isTelling_45 rfl rfl ?_
    obtain ⟨_, h15, hf⟩ := ob hf
    obtain ⟨σ13, v14, eσ13, hf⟩ := cb_el hf
    refine g_callV_v dX12_isTelling_46 (wX12_reads _ eσ13) (okX12_reads _ (by decide) (by decide)) (ckK_el h15) hc16 t_2249 t_2251 s_X12_reads rfl (Nat.le_trans (cat_le _) (Nat.le_of_ble_eq_true rfl)) rfl ?_
    refine g_aload_n (j := 0) dX12_isTelling_49 rfl rfl ?_
    refine g_bipush (v := 61) dX12_isTelling_50 (by decide) ?_
    obtain ⟨_, h18, hf⟩ := ob hf
    obtain ⟨σ16, v17, eσ16, hf⟩ := cb_el hf
    refine g_callV_i dX12_isTelling_52 (wX12_isNow _ eσ16) (okX12_isNow _ (by decide) (by decide)) (ckK_el h18) hc16 t_2282 t_2284 s_X12_isNow rfl (Nat.le_trans (cat_le _) (Nat.le_of_ble_eq_true rfl)) rfl ?_
    refine g_if_eq (tgt := 60) dX12_isTelling_55 (by decide) (fun c19 => ?_) (fun c19 => ?_)
    · rw [if_pos c19] at hf
      refine g_aload_n (j := 0) dX12_isTelling_60 rfl rfl ?_
      refine g_bipush (v := 40) dX12_isTelling_61 (by decide) ?_
      obtain ⟨_, h22, hf⟩ := ob hf
      obtain ⟨σ20, v21, eσ20, hf⟩ := cb_el hf
      refine g_callV_i dX12_isTelling_63 (wX12_isNow _ eσ20) (okX12_isNow _ (by decide) (by decide)) (ckK_el h22) hc16 t_2282 t_2284 s_X12_isNow rfl (Nat.le_trans (cat_le _) (Nat.le_of_ble_eq_true rfl)) rfl ?_
      refine g_if_ne (tgt := 71) dX12_isTelling_66 (by decide) (fun c23 => ?_) (fun c23 => ?_)
      · rw [if_neg c23] at hf
        refine g_aload_n (j := 0) dX12_isTelling_71 rfl rfl ?_
        refine g_iconst (v := 2) dX12_isTelling_72 (by decide) ?_
        obtain ⟨σ24, eσ24, hf⟩ := ob hf
        refine g_putI dX12_isTelling_73 eσ24 (Or.inl t_1999) hin16 hc16 (by decide) hty16 hnm16 (Or.inl rfl) rfl rfl rfl ?_
        exact bX12_isTelling_76 hX1 hX2 FU _ _ hf
      · rw [if_pos c23] at hf
        refine g_iconst (v := 0) dX12_isTelling_69 (by decide) ?_
        exact g_iret dX12_isTelling_70 rfl (by decide) hX2 hX1 hf
    · rw [if_neg c19] at hf
      refine g_iconst (v := 1) dX12_isTelling_58 (by decide) ?_
      exact g_iret dX12_isTelling_59 rfl (by decide) hX2 hX1 hf
  · rw [if_neg c6] at hf
    refine g_iconst (v := 0) dX12_isTelling_17 (by decide) ?_
    exact g_iret dX12_isTelling_18 rfl (by decide) hX2 hX1 hf

theorem okX12_isTelling (M : Mt) (h1 : 7 + 1 ≤ M.2.2.2.2.1) (h2 : 8 + (1 + 11) + 213 ≤ M.2.2.2.2.2.1) : CallOk M MtX12_isTelling yX12_isTelling 0 := ⟨t_2248, h1, h2, ⟨by decide, by decide⟩, by decide +kernel, t_16⟩
abbrev MtX12_readsHead : Mt := (cX12_readsHead, 3, "ExactlySaidModel", (Option.some Jvm.ClassFile.FieldType.boolean), 7, 213, false)
set_option maxRecDepth 100000 in
set_option maxHeartbeats 4000000 in
theorem bX12_readsHead_44 {X : Xt} {σf : St} {r : Int32} (hX1 : X.2.2.1 = σf) (hX2 : X.2.2.2 = .inl (some (.int r))) {k15 : St → Nat → Int32 → Option (St × Int32)} (hk15 : ∀ (σ : St) (x0 : Nat) (x1 : Int32), k15 σ x0 x1 = some (σf, r) → G MtX12_readsHead X σ 15 [(0, rv x0), (1, .int x1)] []) : ∀ (n : Nat) (σ : St) (x0 : Nat) (x1 : Int32) (x2 : Int32), fX12_readsHead_44 k15 n σ x0 x1 x2 = some (σf, r) → G MtX12_readsHead X σ 44 [(0, rv x0), (1, .int x1), (2, .int x2)] [] := by
  intro n
  induction n with
  | zero => intro σ x0 x1 x2 hf; cases hf
  | succ n ih =>
    intro σ x0 x1 x2 hf
    rw [fX12_readsHead_44] at hf
    refine g_iload_n (j := 2) dX12_readsHead_44 rfl rfl ?_
    refine g_iload_n (j := 1) dX12_readsHead_45 rfl rfl ?_
    refine g_icmp_ge (tgt := 70) dX12_readsHead_46 (by decide) (fun c1 => ?_) (fun c1 => ?_)
    · rw [if_pos c1] at hf
      refine g_aload_n (j := 0) dX12_readsHead_70 rfl rfl ?_
      obtain ⟨v2, ev2, hf⟩ := ob hf
      refine g_getF dX12_readsHead_71 ev2 t_2003 hin16 hc16 (by decide) rfl ?_
      refine g_iload_n (j := 1) dX12_readsHead_74 rfl rfl ?_
      refine g_aload_n (j := 0) dX12_readsHead_75 rfl rfl ?_
      obtain ⟨v3, ev3, hf⟩ := ob hf
      refine g_getI dX12_readsHead_76 ev3 t_1979 hin16 hc16 (by decide) rfl ?_
      obtain ⟨σ4, eσ4, hf⟩ := ob hf
      refine g_iast dX12_readsHead_79 eσ4 ?_
      refine g_aload_n (j := 0) dX12_readsHead_80 rfl rfl ?_
      obtain ⟨_, h7, hf⟩ := ob hf
      obtain ⟨σ5, v6, eσ5, hf⟩ := cb_el hf
      refine g_callV_v dX12_readsHead_81 (wX12_reads _ eσ5) (okX12_reads _ (by decide) (by decide)) (ckK_el h7) hc16 t_2249 t_2251 s_X12_reads rfl (Nat.le_trans (cat_le _) (Nat.le_of_ble_eq_true rfl)) rfl ?_
      obtain ⟨v8, ev8, hf⟩ := nm_el hf
      refine g_iinc (L' := [(1, .int v8), (0, rv x0), (2, .int x2)]) (j := 1) (v := v8) dX12_readsHead_84 rfl (by rw [ev8]; rfl) (Nat.le_of_ble_eq_true rfl) (by simp [rv_cat]) ?_
      refine g_goto (tgt := 15) dX12_readsHead_87 (by decide) ?_
      refine g_sub (L' := [(0, rv x0), (1, .int v8)]) [1, 0] rfl ?_
      exact hk15 _ _ _ hf
    · rw [if_neg c1] at hf
      refine g_aload_n (j := 0) dX12_readsHead_49 rfl rfl ?_
      obtain ⟨v9, ev9, hf⟩ := ob hf
      refine g_getF dX12_readsHead_50 ev9 t_2003 hin16 hc16 (by decide) rfl ?_
      refine g_iload_n (j := 2) dX12_readsHead_53 rfl rfl ?_
      obtain ⟨v10, ev10, hf⟩ := ob hf
      refine g_iald dX12_readsHead_54 ev10 ?_
      refine g_aload_n (j := 0) dX12_readsHead_55 rfl rfl ?_
      obtain ⟨v11, ev11, hf⟩ := ob hf
      refine g_getI dX12_readsHead_56 ev11 t_1979 hin16 hc16 (by decide) rfl ?_
      refine g_icmp_ne (tgt := 64) dX12_readsHead_59 (by decide) (fun c12 => ?_) (fun c12 => ?_)
      · rw [if_neg c12] at hf
        obtain ⟨v13, ev13, hf⟩ := nm_el hf
        refine g_iinc (L' := [(2, .int v13), (0, rv x0), (1, .int x1)]) (j := 2) (v := v13) dX12_readsHead_64 rfl (by rw [ev13]; rfl) (Nat.le_of_ble_eq_true rfl) rfl ?_
        refine g_goto (tgt := 44) dX12_readsHead_67 (by decide) ?_
        refine g_sub (L' := [(0, rv x0), (1, .int x1), (2, .int v13)]) [1, 2, 0] rfl ?_
        exact ih _ _ _ _ hf
      · rw [if_pos c12] at hf
        refine g_iconst (v := 0) dX12_readsHead_62 (by decide) ?_
        exact g_iret dX12_readsHead_63 rfl (by decide) hX2 hX1 hf

set_option maxRecDepth 100000 in
set_option maxHeartbeats 4000000 in
theorem bX12_readsHead_102 {X : Xt} {σf : St} {r : Int32} (hX1 : X.2.2.1 = σf) (hX2 : X.2.2.2 = .inl (some (.int r))) {σ : St} {x0 : Nat} (hf : fX12_readsHead_102 σ x0 = some (σf, r)) : G MtX12_readsHead X σ 102 [(0, rv x0)] [] := by
  unfold fX12_readsHead_102 at hf
  refine g_aload_n (j := 0) dX12_readsHead_102 rfl rfl ?_
  obtain ⟨_, h3, hf⟩ := ob hf
  obtain ⟨σ1, v2, eσ1, hf⟩ := cb_el hf
  refine g_callV_v dX12_readsHead_103 (wX12_reads _ eσ1) (okX12_reads _ (by decide) (by decide)) (ckK_el h3) hc16 t_2249 t_2251 s_X12_reads rfl (Nat.le_trans (cat_le _) (Nat.le_of_ble_eq_true rfl)) rfl ?_
  refine g_iconst (v := 1) dX12_readsHead_106 (by decide) ?_
  exact g_iret dX12_readsHead_107 rfl (by decide) hX2 hX1 hf

set_option maxRecDepth 100000 in
set_option maxHeartbeats 4000000 in
theorem bX12_readsHead_90 {X : Xt} {σf : St} {r : Int32} (hX1 : X.2.2.1 = σf) (hX2 : X.2.2.2 = .inl (some (.int r))) {σ : St} {x0 : Nat} (hf : fX12_readsHead_90 σ x0 = some (σf, r)) : G MtX12_readsHead X σ 90 [(0, rv x0)] [] := by
  unfold fX12_readsHead_90 at hf
  refine g_aload_n (j := 0) dX12_readsHead_90 rfl rfl ?_
  obtain ⟨v1, ev1, hf⟩ := ob hf
  refine g_getI dX12_readsHead_91 ev1 t_1999 hin16 hc16 (by decide) rfl ?_
  refine g_iconst (v := 2) dX12_readsHead_94 (by decide) ?_
  refine g_icmp_ne (tgt := 102) dX12_readsHead_95 (by decide) (fun c2 => ?_) (fun c2 => ?_)
  · rw [if_neg c2] at hf
    exact bX12_readsHead_102 hX1 hX2 hf
  · rw [if_pos c2] at hf
    refine g_aload_n (j := 0) dX12_readsHead_98 rfl rfl ?_
    obtain ⟨_, h5, hf⟩ := ob hf
    obtain ⟨σ3, v4, eσ3, hf⟩ := cb_el hf
    refine g_callV_v dX12_readsHead_99 (wX12_reads _ eσ3) (okX12_reads _ (by decide) (by decide)) (ckK_el h5) hc16 t_2249 t_2251 s_X12_reads rfl (Nat.le_trans (cat_le _) (Nat.le_of_ble_eq_true rfl)) rfl ?_
    exact bX12_readsHead_102 hX1 hX2 hf

set_option maxRecDepth 100000 in
set_option maxHeartbeats 4000000 in
theorem bX12_readsHead_15 {X : Xt} {σf : St} {r : Int32} (hX1 : X.2.2.1 = σf) (hX2 : X.2.2.2 = .inl (some (.int r))) : ∀ (n : Nat) (σ : St) (x0 : Nat) (x1 : Int32), fX12_readsHead_15 n σ x0 x1 = some (σf, r) → G MtX12_readsHead X σ 15 [(0, rv x0), (1, .int x1)] [] := by
  intro n
  induction n with
  | zero => intro σ x0 x1 hf; cases hf
  | succ n ih =>
    intro σ x0 x1 hf
    rw [fX12_readsHead_15] at hf
    refine g_aload_n (j := 0) dX12_readsHead_15 rfl rfl ?_
    obtain ⟨v1, ev1, hf⟩ := ob hf
    refine g_getI dX12_readsHead_16 ev1 t_1999 hin16 hc16 (by decide) rfl ?_
    refine g_iconst (v := 2) dX12_readsHead_19 (by decide) ?_
    refine g_icmp_ne (tgt := 90) dX12_readsHead_20 (by decide) (fun c2 => ?_) (fun c2 => ?_)
    · rw [if_neg c2] at hf
      refine g_sub (L' := [(0, rv x0)]) [0] rfl ?_
      exact bX12_readsHead_90 hX1 hX2 hf
    · rw [if_pos c2] at hf
      refine g_iload_n (j := 1) dX12_readsHead_23 rfl rfl ?_
      refine g_aload_n (j := 0) dX12_readsHead_24 rfl rfl ?_
      obtain ⟨v3, ev3, hf⟩ := ob hf
      refine g_getI dX12_readsHead_25 ev3 t_2002 hin16 hc16 (by decide) rfl ?_
      refine g_icmp_ge (tgt := 90) dX12_readsHead_28 (by decide) (fun c4 => ?_) (fun c4 => ?_)
      · rw [if_pos c4] at hf
        refine g_sub (L' := [(0, rv x0)]) [0] rfl ?_
        exact bX12_readsHead_90 hX1 hX2 hf
      · rw [if_neg c4] at hf
        refine g_aload_n (j := 0) dX12_readsHead_31 rfl rfl ?_
        obtain ⟨_, h7, hf⟩ := ob hf
        obtain ⟨σ5, v6, eσ5, hf⟩ := cb_el hf
        refine g_callV_v dX12_readsHead_32 (wX12_reads _ eσ5) (okX12_reads _ (by decide) (by decide)) (ckK_el h7) hc16 t_2249 t_2251 s_X12_reads rfl (Nat.le_trans (cat_le _) (Nat.le_of_ble_eq_true rfl)) rfl ?_
        refine g_iload_n (j := 1) dX12_readsHead_35 rfl rfl ?_
        refine g_iconst (v := 4) dX12_readsHead_36 (by decide) ?_
        refine g_icmp_ne (tgt := 42) dX12_readsHead_37 (by decide) (fun c8 => ?_) (fun c8 => ?_)
        · rw [if_neg c8] at hf
          refine g_iconst (v := 0) dX12_readsHead_42 (by decide) ?_
          refine g_istore_n (i := 2) (L' := [(2, .int 0), (0, rv x0), (1, .int x1)]) dX12_readsHead_43 rfl (Nat.le_of_ble_eq_true rfl) rfl ?_
          refine g_sub (L' := [(0, rv x0), (1, .int x1), (2, .int 0)]) [1, 2, 0] rfl ?_
          exact bX12_readsHead_44 hX1 hX2 (fun σ x0 x1 hf => ih σ x0 x1 hf) FU _ _ _ _ hf
        · rw [if_pos c8] at hf
          refine g_iconst (v := 0) dX12_readsHead_40 (by decide) ?_
          exact g_iret dX12_readsHead_41 rfl (by decide) hX2 hX1 hf

set_option maxRecDepth 100000 in
set_option maxHeartbeats 4000000 in
theorem wX12_readsHead (l : Launch) {σ σf : St} {x0 : Nat} {r : Int32} (hf : fX12_readsHead σ x0 = some (σf, r)) : Con MtX12_readsHead yX12_readsHead l σ [rv x0] σf (some (.int r)) := by
  refine Con.of (by decide +kernel) rfl (fun h => absurd (show false = true from h) (by decide)) (by simp only [sl_n, sl_r, sl_i, sl_l]; exact Nat.le_of_ble_eq_true rfl) ?_
  rw [show lv_args 0 [rv x0] = [(0, rv x0)] by simp only [la_n, la_r, la_i, la_l] <;> rfl]
  have hX1 : ((l, σ, σf, .inl (some (.int r))) : Xt).2.2.1 = σf := rfl
  have hX2 : ((l, σ, σf, .inl (some (.int r))) : Xt).2.2.2 = .inl (some (.int r)) := rfl
  unfold fX12_readsHead at hf
  refine g_aload_n (j := 0) dX12_readsHead_0 rfl rfl ?_
  refine g_iconst (v := 0) dX12_readsHead_1 (by decide) ?_
  obtain ⟨σ1, eσ1, hf⟩ := ob hf
  refine g_putI dX12_readsHead_2 eσ1 (Or.inl t_1980) hin16 hc16 (by decide) hty16 hnm16 (Or.inl rfl) rfl rfl rfl ?_
  refine g_aload_n (j := 0) dX12_readsHead_5 rfl rfl ?_
  obtain ⟨_, h4, hf⟩ := ob hf
  obtain ⟨σ2, v3, eσ2, hf⟩ := cb_el hf
  refine g_callV_v dX12_readsHead_6 (wX12_reads _ eσ2) (okX12_reads _ (by decide) (by decide)) (ckK_el h4) hc16 t_2249 t_2251 s_X12_reads rfl (Nat.le_trans (cat_le _) (Nat.le_of_ble_eq_true rfl)) rfl ?_
  refine g_aload_n (j := 0) dX12_readsHead_9 rfl rfl ?_
  obtain ⟨_, h7, hf⟩ := ob hf
  obtain ⟨σ5, v6, eσ5, hf⟩ := cb_el hf
  refine g_callV_v dX12_readsHead_10 (wX12_reads _ eσ5) (okX12_reads _ (by decide) (by decide)) (ckK_el h7) hc16 t_2249 t_2251 s_X12_reads rfl (Nat.le_trans (cat_le _) (Nat.le_of_ble_eq_true rfl)) rfl ?_
  refine g_iconst (v := 0) dX12_readsHead_13 (by decide) ?_
  refine g_istore_n (i := 1) (L' := [(1, .int 0), (0, rv x0)]) dX12_readsHead_14 rfl (Nat.le_of_ble_eq_true rfl) (by simp [rv_cat]) ?_
  refine g_sub (L' := [(0, rv x0), (1, .int 0)]) [1, 0] rfl ?_
  exact bX12_readsHead_15 hX1 hX2 FU _ _ _ hf

theorem okX12_readsHead (M : Mt) (h1 : 7 + 1 ≤ M.2.2.2.2.1) (h2 : 8 + (3 + 11) + 213 ≤ M.2.2.2.2.2.1) : CallOk M MtX12_readsHead yX12_readsHead 0 := ⟨t_2289, h1, h2, ⟨by decide, by decide⟩, by decide +kernel, t_16⟩
abbrev MtX12_adds : Mt := (cX12_adds, 7, "ExactlySaidModel", none, 2, 106, false)
set_option maxRecDepth 100000 in
set_option maxHeartbeats 4000000 in
theorem bX12_adds_111 {X : Xt} {σf : St} {r : Unit} (hX1 : X.2.2.1 = σf) (hX2 : X.2.2.2 = .inl (none)) {k37 : St → Nat → Int32 → Int32 → Int32 → Int32 → Int32 → Option (St × Unit)} (hk37 : ∀ (σ : St) (x0 : Nat) (x1 : Int32) (x2 : Int32) (x3 : Int32) (x4 : Int32) (x5 : Int32), k37 σ x0 x1 x2 x3 x4 x5 = some (σf, r) → G MtX12_adds X σ 37 [(0, rv x0), (1, .int x1), (2, .int x2), (3, .int x3), (4, .int x4), (5, .int x5)] []) {σ : St} {x0 : Nat} {x1 : Int32} {x2 : Int32} {x3 : Int32} {x4 : Int32} {x5 : Int32} (hf : fX12_adds_111 k37 σ x0 x1 x2 x3 x4 x5 = some (σf, r)) : G MtX12_adds X σ 111 [(0, rv x0), (1, .int x1), (2, .int x2), (3, .int x3), (4, .int x4), (5, .int x5)] [] := by
  unfold fX12_adds_111 at hf
  obtain ⟨v1, ev1, hf⟩ := nm_el hf
  refine g_iinc (L' := [(5, .int v1), (0, rv x0), (1, .int x1), (2, .int x2), (3, .int x3), (4, .int x4)]) (j := 5) (v := v1) dX12_adds_111 rfl (by rw [ev1]; rfl) (Nat.le_of_ble_eq_true rfl) rfl ?_
  refine g_goto (tgt := 37) dX12_adds_114 (by decide) ?_
  refine g_sub (L' := [(0, rv x0), (1, .int x1), (2, .int x2), (3, .int x3), (4, .int x4), (5, .int v1)]) [1, 2, 3, 4, 5, 0] rfl ?_
  exact hk37 _ _ _ _ _ _ _ hf

set_option maxRecDepth 100000 in
set_option maxHeartbeats 4000000 in
theorem bX12_adds_37 {X : Xt} {σf : St} {r : Unit} (hX1 : X.2.2.1 = σf) (hX2 : X.2.2.2 = .inl (none)) : ∀ (n : Nat) (σ : St) (x0 : Nat) (x1 : Int32) (x2 : Int32) (x3 : Int32) (x4 : Int32) (x5 : Int32), fX12_adds_37 n σ x0 x1 x2 x3 x4 x5 = some (σf, r) → G MtX12_adds X σ 37 [(0, rv x0), (1, .int x1), (2, .int x2), (3, .int x3), (4, .int x4), (5, .int x5)] [] := by
  intro n
  induction n with
  | zero => intro σ x0 x1 x2 x3 x4 x5 hf; cases hf
  | succ n ih =>
    intro σ x0 x1 x2 x3 x4 x5 hf
    rw [fX12_adds_37] at hf
    refine g_iload (j := 5) dX12_adds_37 rfl ?_
    refine g_iload_n (j := 3) dX12_adds_39 rfl rfl ?_
    refine g_icmp_gt (tgt := 117) dX12_adds_40 (by decide) (fun c1 => ?_) (fun c1 => ?_)
    · rw [if_pos c1] at hf
      refine g_aload_n (j := 0) dX12_adds_117 rfl rfl ?_
      refine g_iload_n (j := 1) dX12_adds_118 rfl rfl ?_
      obtain ⟨_, h4, hf⟩ := ob hf
      obtain ⟨σ2, v3, eσ2, hf⟩ := cb_el hf
      refine g_callV_v dX12_adds_119 (wX12_trims _ eσ2) (okX12_trims _ (by decide) (by decide)) (ckK_el h4) hc16 t_1943 t_1945 s_X12_trims rfl (Nat.le_trans (cat_le _) (Nat.le_of_ble_eq_true rfl)) rfl ?_
      exact g_vret dX12_adds_122 rfl hX2 hX1 hf
    · rw [if_neg c1] at hf
      refine g_aload_n (j := 0) dX12_adds_43 rfl rfl ?_
      refine g_iload_n (j := 1) dX12_adds_44 rfl rfl ?_
      refine g_iload (j := 5) dX12_adds_45 rfl ?_
      obtain ⟨_, h7, hf⟩ := ob hf
      obtain ⟨σ5, v6, eσ5, hf⟩ := cb_el hf
      refine g_callV_i dX12_adds_47 (wX12_limb _ eσ5) (okX12_limb _ (by decide) (by decide)) (ckK_el h7) hc16 t_1963 t_1965 s_X12_limb rfl (Nat.le_trans (cat_le _) (Nat.le_of_ble_eq_true rfl)) rfl ?_
      refine g_aload_n (j := 0) dX12_adds_50 rfl rfl ?_
      refine g_iload_n (j := 2) dX12_adds_51 rfl rfl ?_
      refine g_iload (j := 5) dX12_adds_52 rfl ?_
      obtain ⟨_, h10, hf⟩ := ob hf
      obtain ⟨σ8, v9, eσ8, hf⟩ := cb_el hf
      refine g_callV_i dX12_adds_54 (wX12_limb _ eσ8) (okX12_limb _ (by decide) (by decide)) (ckK_el h10) hc16 t_1963 t_1965 s_X12_limb rfl (Nat.le_trans (cat_le _) (Nat.le_of_ble_eq_true rfl)) rfl ?_
      refine g_iadd dX12_adds_57 ?_
      refine g_iload (j := 4) dX12_adds_58 rfl ?_
      refine g_iadd dX12_adds_60 ?_
      obtain ⟨v11, ev11, hf⟩ := nm_el hf
      refine g_topI ev11 ?_
      refine g_istore (i := 6) (L' := [(6, .int v11), (0, rv x0), (1, .int x1), (2, .int x2), (3, .int x3), (4, .int x4), (5, .int x5)]) dX12_adds_61 (Nat.le_of_ble_eq_true rfl) rfl ?_
      refine g_aload_n (j := 1) dX12_adds_63 rfl rfl ?_
      obtain ⟨v12, ev12, hf⟩ := ob hf
      refine g_getF dX12_adds_64 ev12 t_1968 hin16 hc16 (by decide) rfl ?_
      refine g_sipush (v := 1000) dX12_adds_67 (by decide) ?_
      refine g_iload_n (j := 2) dX12_adds_70 rfl rfl ?_
      refine g_imul dX12_adds_71 ?_
      refine g_iload (j := 6) dX12_adds_72 rfl ?_
      refine g_iadd dX12_adds_74 ?_
      refine g_iload (j := 0) dX12_adds_75 rfl ?_
      refine g_sipush (v := 10000) dX12_adds_77 (by decide) ?_
      refine g_irem dX12_adds_80 (by decide) ?_
      obtain ⟨σ13, eσ13, hf⟩ := ob hf
      refine g_iast dX12_adds_81 eσ13 ?_
      refine g_iload (j := 0) dX12_adds_82 rfl ?_
      refine g_sipush (v := 10000) dX12_adds_84 (by decide) ?_
      refine g_idiv dX12_adds_87 (by decide) ?_
      obtain ⟨v14, ev14, hf⟩ := nm_el hf
      refine g_topI ev14 ?_
      refine g_istore (i := 4) (L' := [(4, .int v14), (6, .int v11), (0, rv x0), (1, .int x1), (2, .int x2), (3, .int x3), (5, .int x5)]) dX12_adds_88 (Nat.le_of_ble_eq_true rfl) rfl ?_
      refine g_iload (j := 6) dX12_adds_90 rfl ?_
      refine g_aload_n (j := 2) dX12_adds_92 rfl rfl ?_
      obtain ⟨v15, ev15, hf⟩ := ob hf
      refine g_getF dX12_adds_93 ev15 t_1969 hin16 hc16 (by decide) rfl ?_
      refine g_iload_n (j := 3) dX12_adds_96 rfl rfl ?_
      obtain ⟨v16, ev16, hf⟩ := ob hf
      refine g_iald dX12_adds_97 ev16 ?_
      refine g_icmp_lt (tgt := 111) dX12_adds_98 (by decide) (fun c17 => ?_) (fun c17 => ?_)
      · rw [if_pos c17] at hf
        refine g_sub (L' := [(0, rv x0), (1, .int x1), (2, .int x2), (3, .int x3), (4, .int v14), (5, .int x5)]) [2, 3, 4, 5, 0, 6] rfl ?_
        exact bX12_adds_111 hX1 hX2 (fun σ x0 x1 x2 x3 x4 x5 hf => ih σ x0 x1 x2 x3 x4 x5 hf) hf
      · rw [if_neg c17] at hf
        refine g_aload_n (j := 2) dX12_adds_101 rfl rfl ?_
        obtain ⟨v18, ev18, hf⟩ := ob hf
        refine g_getF dX12_adds_102 ev18 t_1969 hin16 hc16 (by decide) rfl ?_
        refine g_iload_n (j := 3) dX12_adds_105 rfl rfl ?_
        refine g_iload (j := 6) dX12_adds_106 rfl ?_
        refine g_iconst (v := 1) dX12_adds_108 (by decide) ?_
        refine g_iadd dX12_adds_109 ?_
        obtain ⟨σ19, eσ19, hf⟩ := ob hf
        refine g_iast dX12_adds_110 eσ19 ?_
        refine g_sub (L' := [(0, rv x0), (1, .int x1), (2, .int x2), (3, .int x3), (4, .int v14), (5, .int x5)]) [2, 3, 4, 5, 0, 6] rfl ?_
        exact bX12_adds_111 hX1 hX2 (fun σ x0 x1 x2 x3 x4 x5 hf => ih σ x0 x1 x2 x3 x4 x5 hf) hf

set_option maxRecDepth 100000 in
set_option maxHeartbeats 4000000 in
theorem bX12_adds_30 {X : Xt} {σf : St} {r : Unit} (hX1 : X.2.2.1 = σf) (hX2 : X.2.2.2 = .inl (none)) {σ : St} {x0 : Nat} {x1 : Int32} {x2 : Int32} {y0 : Int32} (hf : fX12_adds_30 σ x0 x1 x2 y0 = some (σf, r)) : G MtX12_adds X σ 30 [(0, rv x0), (1, .int x1), (2, .int x2)] [.int y0] := by
  unfold fX12_adds_30 at hf
  refine g_istore_n (i := 3) (L' := [(3, .int y0), (0, rv x0), (1, .int x1), (2, .int x2)]) dX12_adds_30 rfl (Nat.le_of_ble_eq_true rfl) rfl ?_
  refine g_iconst (v := 0) dX12_adds_31 (by decide) ?_
  refine g_istore (i := 4) (L' := [(4, .int 0), (3, .int y0), (0, rv x0), (1, .int x1), (2, .int x2)]) dX12_adds_32 (Nat.le_of_ble_eq_true rfl) rfl ?_
  refine g_iconst (v := 0) dX12_adds_34 (by decide) ?_
  refine g_istore (i := 5) (L' := [(5, .int 0), (4, .int 0), (3, .int y0), (0, rv x0), (1, .int x1), (2, .int x2)]) dX12_adds_35 (Nat.le_of_ble_eq_true rfl) rfl ?_
  refine g_sub (L' := [(0, rv x0), (1, .int x1), (2, .int x2), (3, .int y0), (4, .int 0), (5, .int 0)]) [3, 4, 5, 2, 1, 0] rfl ?_
  exact bX12_adds_37 hX1 hX2 FU _ _ _ _ _ _ _ hf

set_option maxRecDepth 100000 in
set_option maxHeartbeats 4000000 in
theorem wX12_adds (l : Launch) {σ σf : St} {x0 : Nat} {x1 : Int32} {x2 : Int32} {r : Unit} (hf : fX12_adds σ x0 x1 x2 = some (σf, r)) : Con MtX12_adds yX12_adds l σ [rv x0, .int x1, .int x2] σf (none) := by
  refine Con.of (by decide +kernel) rfl (fun h => absurd (show false = true from h) (by decide)) (by simp only [sl_n, sl_r, sl_i, sl_l]; exact Nat.le_of_ble_eq_true rfl) ?_
  rw [show lv_args 0 [rv x0, .int x1, .int x2] = [(0, rv x0), (1, .int x1), (2, .int x2)] by simp only [la_n, la_r, la_i, la_l] <;> rfl]
  have hX1 : ((l, σ, σf, .inl (none)) : Xt).2.2.1 = σf := rfl
  have hX2 : ((l, σ, σf, .inl (none)) : Xt).2.2.2 = .inl (none) := rfl
  unfold fX12_adds at hf
  refine g_aload_n (j := 0) dX12_adds_0 rfl rfl ?_
  obtain ⟨v1, ev1, hf⟩ := ob hf
  refine g_getF dX12_adds_1 ev1 t_1969 hin16 hc16 (by decide) rfl ?_
  refine g_iload_n (j := 1) dX12_adds_4 rfl rfl ?_
  obtain ⟨v2, ev2, hf⟩ := ob hf
  refine g_iald dX12_adds_5 ev2 ?_
  refine g_aload_n (j := 0) dX12_adds_6 rfl rfl ?_
  obtain ⟨v3, ev3, hf⟩ := ob hf
  refine g_getF dX12_adds_7 ev3 t_1969 hin16 hc16 (by decide) rfl ?_
  refine g_iload_n (j := 2) dX12_adds_10 rfl rfl ?_
  obtain ⟨v4, ev4, hf⟩ := ob hf
  refine g_iald dX12_adds_11 ev4 ?_
  refine g_icmp_le (tgt := 24) dX12_adds_12 (by decide) (fun c5 => ?_) (fun c5 => ?_)
  · rw [if_pos c5] at hf
    refine g_aload_n (j := 0) dX12_adds_24 rfl rfl ?_
    obtain ⟨v6, ev6, hf⟩ := ob hf
    refine g_getF dX12_adds_25 ev6 t_1969 hin16 hc16 (by decide) rfl ?_
    refine g_iload_n (j := 2) dX12_adds_28 rfl rfl ?_
    obtain ⟨v7, ev7, hf⟩ := ob hf
    refine g_iald dX12_adds_29 ev7 ?_
    exact bX12_adds_30 hX1 hX2 hf
  · rw [if_neg c5] at hf
    refine g_aload_n (j := 0) dX12_adds_15 rfl rfl ?_
    obtain ⟨v8, ev8, hf⟩ := ob hf
    refine g_getF dX12_adds_16 ev8 t_1969 hin16 hc16 (by decide) rfl ?_
    refine g_iload_n (j := 1) dX12_adds_19 rfl rfl ?_
    obtain ⟨v9, ev9, hf⟩ := ob hf
    refine g_iald dX12_adds_20 ev9 ?_
    refine g_goto (tgt := 30) dX12_adds_21 (by decide) ?_
    exact bX12_adds_30 hX1 hX2 hf

theorem okX12_adds (M : Mt) (h1 : 2 + 1 ≤ M.2.2.2.2.1) (h2 : 8 + (7 + 11) + 106 ≤ M.2.2.2.2.2.1) : CallOk M MtX12_adds yX12_adds 2 := ⟨t_2305, h1, h2, ⟨by decide, by decide⟩, by decide +kernel, t_16⟩
abbrev MtX12_takesAway : Mt := (cX12_takesAway, 6, "ExactlySaidModel", none, 2, 106, false)
set_option maxRecDepth 100000 in
set_option maxHeartbeats 4000000 in
theorem bX12_takesAway_51 {X : Xt} {σf : St} {r : Unit} (hX1 : X.2.2.1 = σf) (hX2 : X.2.2.2 = .inl (none)) {k5 : St → Nat → Int32 → Int32 → Int32 → Int32 → Option (St × Unit)} (hk5 : ∀ (σ : St) (x0 : Nat) (x1 : Int32) (x2 : Int32) (x3 : Int32) (x4 : Int32), k5 σ x0 x1 x2 x3 x4 = some (σf, r) → G MtX12_takesAway X σ 5 [(0, rv x0), (1, .int x1), (2, .int x2), (3, .int x3), (4, .int x4)] []) {σ : St} {x0 : Nat} {x1 : Int32} {x2 : Int32} {x4 : Int32} {x5 : Int32} {y0 : Int32} (hf : fX12_takesAway_51 k5 σ x0 x1 x2 x4 x5 y0 = some (σf, r)) : G MtX12_takesAway X σ 51 [(0, rv x0), (1, .int x1), (2, .int x2), (4, .int x4), (5, .int x5)] [.int y0] := by
  unfold fX12_takesAway_51 at hf
  refine g_istore_n (i := 3) (L' := [(3, .int y0), (0, rv x0), (1, .int x1), (2, .int x2), (4, .int x4), (5, .int x5)]) dX12_takesAway_51 rfl (Nat.le_of_ble_eq_true rfl) rfl ?_
  refine g_aload_n (j := 1) dX12_takesAway_52 rfl rfl ?_
  obtain ⟨v1, ev1, hf⟩ := ob hf
  refine g_getF dX12_takesAway_53 ev1 t_1968 hin16 hc16 (by decide) rfl ?_
  refine g_sipush (v := 1000) dX12_takesAway_56 (by decide) ?_
  refine g_iload_n (j := 2) dX12_takesAway_59 rfl rfl ?_
  refine g_imul dX12_takesAway_60 ?_
  refine g_iload (j := 4) dX12_takesAway_61 rfl ?_
  refine g_iadd dX12_takesAway_63 ?_
  refine g_iload (j := 5) dX12_takesAway_64 rfl ?_
  refine g_iload_n (j := 0) dX12_takesAway_66 rfl rfl ?_
  refine g_sipush (v := 10000) dX12_takesAway_67 (by decide) ?_
  refine g_imul dX12_takesAway_70 ?_
  refine g_iadd dX12_takesAway_71 ?_
  obtain ⟨σ2, eσ2, hf⟩ := ob hf
  refine g_iast dX12_takesAway_72 eσ2 ?_
  obtain ⟨v3, ev3, hf⟩ := nm_el hf
  refine g_iinc (L' := [(4, .int v3), (3, .int y0), (0, rv x0), (1, .int x1), (2, .int x2), (5, .int x5)]) (j := 4) (v := v3) dX12_takesAway_73 rfl (by rw [ev3]; rfl) (Nat.le_of_ble_eq_true rfl) rfl ?_
  refine g_goto (tgt := 5) dX12_takesAway_76 (by decide) ?_
  refine g_sub (L' := [(0, rv x0), (1, .int x1), (2, .int x2), (3, .int y0), (4, .int v3)]) [2, 3, 4, 1, 0] rfl ?_
  exact hk5 _ _ _ _ _ _ hf

set_option maxRecDepth 100000 in
set_option maxHeartbeats 4000000 in
theorem bX12_takesAway_5 {X : Xt} {σf : St} {r : Unit} (hX1 : X.2.2.1 = σf) (hX2 : X.2.2.2 = .inl (none)) : ∀ (n : Nat) (σ : St) (x0 : Nat) (x1 : Int32) (x2 : Int32) (x3 : Int32) (x4 : Int32), fX12_takesAway_5 n σ x0 x1 x2 x3 x4 = some (σf, r) → G MtX12_takesAway X σ 5 [(0, rv x0), (1, .int x1), (2, .int x2), (3, .int x3), (4, .int x4)] [] := by
  intro n
  induction n with
  | zero => intro σ x0 x1 x2 x3 x4 hf; cases hf
  | succ n ih =>
    intro σ x0 x1 x2 x3 x4 hf
    rw [fX12_takesAway_5] at hf
    refine g_iload (j := 4) dX12_takesAway_5 rfl ?_
    refine g_aload_n (j := 0) dX12_takesAway_7 rfl rfl ?_
    obtain ⟨v1, ev1, hf⟩ := ob hf
    refine g_getF dX12_takesAway_8 ev1 t_1969 hin16 hc16 (by decide) rfl ?_
    refine g_iload_n (j := 1) dX12_takesAway_11 rfl rfl ?_
    obtain ⟨v2, ev2, hf⟩ := ob hf
    refine g_iald dX12_takesAway_12 ev2 ?_
    refine g_icmp_ge (tgt := 79) dX12_takesAway_13 (by decide) (fun c3 => ?_) (fun c3 => ?_)
    · rw [if_pos c3] at hf
      refine g_aload_n (j := 0) dX12_takesAway_79 rfl rfl ?_
      refine g_iload_n (j := 1) dX12_takesAway_80 rfl rfl ?_
      obtain ⟨_, h6, hf⟩ := ob hf
      obtain ⟨σ4, v5, eσ4, hf⟩ := cb_el hf
      refine g_callV_v dX12_takesAway_81 (wX12_trims _ eσ4) (okX12_trims _ (by decide) (by decide)) (ckK_el h6) hc16 t_1943 t_1945 s_X12_trims rfl (Nat.le_trans (cat_le _) (Nat.le_of_ble_eq_true rfl)) rfl ?_
      exact g_vret dX12_takesAway_84 rfl hX2 hX1 hf
    · rw [if_neg c3] at hf
      refine g_aload_n (j := 0) dX12_takesAway_16 rfl rfl ?_
      obtain ⟨v7, ev7, hf⟩ := ob hf
      refine g_getF dX12_takesAway_17 ev7 t_1968 hin16 hc16 (by decide) rfl ?_
      refine g_sipush (v := 1000) dX12_takesAway_20 (by decide) ?_
      refine g_iload_n (j := 1) dX12_takesAway_23 rfl rfl ?_
      refine g_imul dX12_takesAway_24 ?_
      refine g_iload (j := 4) dX12_takesAway_25 rfl ?_
      refine g_iadd dX12_takesAway_27 ?_
      obtain ⟨v8, ev8, hf⟩ := ob hf
      refine g_iald dX12_takesAway_28 ev8 ?_
      refine g_aload_n (j := 0) dX12_takesAway_29 rfl rfl ?_
      refine g_iload_n (j := 2) dX12_takesAway_30 rfl rfl ?_
      refine g_iload (j := 4) dX12_takesAway_31 rfl ?_
      obtain ⟨_, h11, hf⟩ := ob hf
      obtain ⟨σ9, v10, eσ9, hf⟩ := cb_el hf
      refine g_callV_i dX12_takesAway_33 (wX12_limb _ eσ9) (okX12_limb _ (by decide) (by decide)) (ckK_el h11) hc16 t_1963 t_1965 s_X12_limb rfl (Nat.le_trans (cat_le _) (Nat.le_of_ble_eq_true rfl)) rfl ?_
      refine g_isub dX12_takesAway_36 ?_
      refine g_iload_n (j := 3) dX12_takesAway_37 rfl rfl ?_
      refine g_isub dX12_takesAway_38 ?_
      obtain ⟨v12, ev12, hf⟩ := nm_el hf
      refine g_topI ev12 ?_
      refine g_istore (i := 5) (L' := [(5, .int v12), (0, rv x0), (1, .int x1), (2, .int x2), (3, .int x3), (4, .int x4)]) dX12_takesAway_39 (Nat.le_of_ble_eq_true rfl) rfl ?_
      refine g_iload (j := 0) dX12_takesAway_41 rfl ?_
      refine g_if_ge (tgt := 50) dX12_takesAway_43 (by decide) (fun c13 => ?_) (fun c13 => ?_)
      · rw [if_pos c13] at hf
        refine g_iconst (v := 0) dX12_takesAway_50 (by decide) ?_
        refine g_sub (L' := [(0, rv x0), (1, .int x1), (2, .int x2), (4, .int x4), (5, .int v12)]) [1, 2, 3, 5, 0] rfl ?_
        exact bX12_takesAway_51 hX1 hX2 (fun σ x0 x1 x2 x3 x4 hf => ih σ x0 x1 x2 x3 x4 hf) hf
      · rw [if_neg c13] at hf
        refine g_iconst (v := 1) dX12_takesAway_46 (by decide) ?_
        refine g_goto (tgt := 51) dX12_takesAway_47 (by decide) ?_
        refine g_sub (L' := [(0, rv x0), (1, .int x1), (2, .int x2), (4, .int x4), (5, .int v12)]) [1, 2, 3, 5, 0] rfl ?_
        exact bX12_takesAway_51 hX1 hX2 (fun σ x0 x1 x2 x3 x4 hf => ih σ x0 x1 x2 x3 x4 hf) hf

set_option maxRecDepth 100000 in
set_option maxHeartbeats 4000000 in
theorem wX12_takesAway (l : Launch) {σ σf : St} {x0 : Nat} {x1 : Int32} {x2 : Int32} {r : Unit} (hf : fX12_takesAway σ x0 x1 x2 = some (σf, r)) : Con MtX12_takesAway yX12_takesAway l σ [rv x0, .int x1, .int x2] σf (none) := by
  refine Con.of (by decide +kernel) rfl (fun h => absurd (show false = true from h) (by decide)) (by simp only [sl_n, sl_r, sl_i, sl_l]; exact Nat.le_of_ble_eq_true rfl) ?_
  rw [show lv_args 0 [rv x0, .int x1, .int x2] = [(0, rv x0), (1, .int x1), (2, .int x2)] by simp only [la_n, la_r, la_i, la_l] <;> rfl]
  have hX1 : ((l, σ, σf, .inl (none)) : Xt).2.2.1 = σf := rfl
  have hX2 : ((l, σ, σf, .inl (none)) : Xt).2.2.2 = .inl (none) := rfl
  unfold fX12_takesAway at hf
  refine g_iconst (v := 0) dX12_takesAway_0 (by decide) ?_
  refine g_istore_n (i := 3) (L' := [(3, .int 0), (0, rv x0), (1, .int x1), (2, .int x2)]) dX12_takesAway_1 rfl (Nat.le_of_ble_eq_true rfl) rfl ?_
  refine g_iconst (v := 0) dX12_takesAway_2 (by decide) ?_
  refine g_istore (i := 4) (L' := [(4, .int 0), (3, .int 0), (0, rv x0), (1, .int x1), (2, .int x2)]) dX12_takesAway_3 (Nat.le_of_ble_eq_true rfl) rfl ?_
  refine g_sub (L' := [(0, rv x0), (1, .int x1), (2, .int x2), (3, .int 0), (4, .int 0)]) [2, 3, 4, 1, 0] rfl ?_
  exact bX12_takesAway_5 hX1 hX2 FU _ _ _ _ _ _ hf

theorem okX12_takesAway (M : Mt) (h1 : 2 + 1 ≤ M.2.2.2.2.1) (h2 : 8 + (6 + 11) + 106 ≤ M.2.2.2.2.2.1) : CallOk M MtX12_takesAway yX12_takesAway 2 := ⟨t_2309, h1, h2, ⟨by decide, by decide⟩, by decide +kernel, t_16⟩
abbrev MtX12_multiplies : Mt := (cX12_multiplies, 8, "ExactlySaidModel", none, 2, 106, false)
set_option maxRecDepth 100000 in
set_option maxHeartbeats 4000000 in
theorem bX12_multiplies_89 {X : Xt} {σf : St} {r : Unit} (hX1 : X.2.2.1 = σf) (hX2 : X.2.2.2 = .inl (none)) {k56 : St → Nat → Int32 → Int32 → Int32 → Int32 → Option (St × Unit)} {k73 : St → Nat → Int32 → Int32 → Int32 → Int32 → Int32 → Int32 → Option (St × Unit)} (hk56 : ∀ (σ : St) (x0 : Nat) (x1 : Int32) (x2 : Int32) (x3 : Int32) (x4 : Int32), k56 σ x0 x1 x2 x3 x4 = some (σf, r) → G MtX12_multiplies X σ 56 [(0, rv x0), (1, .int x1), (2, .int x2), (3, .int x3), (4, .int x4)] []) (hk73 : ∀ (σ : St) (x0 : Nat) (x1 : Int32) (x2 : Int32) (x3 : Int32) (x4 : Int32) (x5 : Int32) (x6 : Int32), k73 σ x0 x1 x2 x3 x4 x5 x6 = some (σf, r) → G MtX12_multiplies X σ 73 [(0, rv x0), (1, .int x1), (2, .int x2), (3, .int x3), (4, .int x4), (5, .int x5), (6, .int x6)] []) {σ : St} {x0 : Nat} {x1 : Int32} {x2 : Int32} {x3 : Int32} {x4 : Int32} {x5 : Int32} {x6 : Int32} (hf : fX12_multiplies_89 k56 k73 σ x0 x1 x2 x3 x4 x5 x6 = some (σf, r)) : G MtX12_multiplies X σ 89 [(0, rv x0), (1, .int x1), (2, .int x2), (3, .int x3), (4, .int x4), (5, .int x5), (6, .int x6)] [] := by
  unfold fX12_multiplies_89 at hf
  refine g_aload_n (j := 0) dX12_multiplies_89 rfl rfl ?_
  obtain ⟨v1, ev1, hf⟩ := ob hf
  refine g_getF dX12_multiplies_90 ev1 t_1968 hin16 hc16 (by decide) rfl ?_
  refine g_sipush (v := 1000) dX12_multiplies_93 (by decide) ?_
  refine g_iload_n (j := 1) dX12_multiplies_96 rfl rfl ?_
  refine g_imul dX12_multiplies_97 ?_
  refine g_iload (j := 4) dX12_multiplies_98 rfl ?_
  refine g_iadd dX12_multiplies_100 ?_
  refine g_iload (j := 6) dX12_multiplies_101 rfl ?_
  refine g_iadd dX12_multiplies_103 ?_
  obtain ⟨v2, ev2, hf⟩ := ob hf
  refine g_iald dX12_multiplies_104 ev2 ?_
  refine g_aload_n (j := 0) dX12_multiplies_105 rfl rfl ?_
  obtain ⟨v3, ev3, hf⟩ := ob hf
  refine g_getF dX12_multiplies_106 ev3 t_1968 hin16 hc16 (by decide) rfl ?_
  refine g_sipush (v := 1000) dX12_multiplies_109 (by decide) ?_
  refine g_iload_n (j := 2) dX12_multiplies_112 rfl rfl ?_
  refine g_imul dX12_multiplies_113 ?_
  refine g_iload (j := 4) dX12_multiplies_114 rfl ?_
  refine g_iadd dX12_multiplies_116 ?_
  obtain ⟨v4, ev4, hf⟩ := ob hf
  refine g_iald dX12_multiplies_117 ev4 ?_
  refine g_aload_n (j := 0) dX12_multiplies_118 rfl rfl ?_
  refine g_iload_n (j := 3) dX12_multiplies_119 rfl rfl ?_
  refine g_iload (j := 6) dX12_multiplies_120 rfl ?_
  obtain ⟨_, h7, hf⟩ := ob hf
  obtain ⟨σ5, v6, eσ5, hf⟩ := cb_el hf
  refine g_callV_i dX12_multiplies_122 (wX12_limb _ eσ5) (okX12_limb _ (by decide) (by decide)) (ckK_el h7) hc16 t_1963 t_1965 s_X12_limb rfl (Nat.le_trans (cat_le _) (Nat.le_of_ble_eq_true rfl)) rfl ?_
  refine g_imul dX12_multiplies_125 ?_
  refine g_iadd dX12_multiplies_126 ?_
  refine g_iload (j := 5) dX12_multiplies_127 rfl ?_
  refine g_iadd dX12_multiplies_129 ?_
  obtain ⟨v8, ev8, hf⟩ := nm_el hf
  refine g_topI ev8 ?_
  refine g_istore (i := 7) (L' := [(7, .int v8), (0, rv x0), (1, .int x1), (2, .int x2), (3, .int x3), (4, .int x4), (5, .int x5), (6, .int x6)]) dX12_multiplies_130 (Nat.le_of_ble_eq_true rfl) rfl ?_
  refine g_aload_n (j := 1) dX12_multiplies_132 rfl rfl ?_
  obtain ⟨v9, ev9, hf⟩ := ob hf
  refine g_getF dX12_multiplies_133 ev9 t_1968 hin16 hc16 (by decide) rfl ?_
  refine g_sipush (v := 1000) dX12_multiplies_136 (by decide) ?_
  refine g_iload_n (j := 2) dX12_multiplies_139 rfl rfl ?_
  refine g_imul dX12_multiplies_140 ?_
  refine g_iload (j := 5) dX12_multiplies_141 rfl ?_
  refine g_iadd dX12_multiplies_143 ?_
  refine g_iload (j := 7) dX12_multiplies_144 rfl ?_
  refine g_iadd dX12_multiplies_146 ?_
  refine g_iload (j := 0) dX12_multiplies_147 rfl ?_
  refine g_sipush (v := 10000) dX12_multiplies_149 (by decide) ?_
  refine g_irem dX12_multiplies_152 (by decide) ?_
  obtain ⟨σ10, eσ10, hf⟩ := ob hf
  refine g_iast dX12_multiplies_153 eσ10 ?_
  refine g_iload (j := 0) dX12_multiplies_154 rfl ?_
  refine g_sipush (v := 10000) dX12_multiplies_156 (by decide) ?_
  refine g_idiv dX12_multiplies_159 (by decide) ?_
  obtain ⟨v11, ev11, hf⟩ := nm_el hf
  refine g_topI ev11 ?_
  refine g_istore (i := 5) (L' := [(5, .int v11), (7, .int v8), (0, rv x0), (1, .int x1), (2, .int x2), (3, .int x3), (4, .int x4), (6, .int x6)]) dX12_multiplies_160 (Nat.le_of_ble_eq_true rfl) rfl ?_
  obtain ⟨v12, ev12, hf⟩ := nm_el hf
  refine g_iinc (L' := [(6, .int v12), (5, .int v11), (7, .int v8), (0, rv x0), (1, .int x1), (2, .int x2), (3, .int x3), (4, .int x4)]) (j := 7) (v := v12) dX12_multiplies_162 rfl (by rw [ev12]; rfl) (Nat.le_of_ble_eq_true rfl) rfl ?_
  refine g_goto (tgt := 73) dX12_multiplies_165 (by decide) ?_
  refine g_sub (L' := [(0, rv x0), (1, .int x1), (2, .int x2), (3, .int x3), (4, .int x4), (5, .int v11), (6, .int v12)]) [3, 4, 5, 6, 7, 1, 0] rfl ?_
  exact hk73 _ _ _ _ _ _ _ _ hf

set_option maxRecDepth 100000 in
set_option maxHeartbeats 4000000 in
theorem bX12_multiplies_73 {X : Xt} {σf : St} {r : Unit} (hX1 : X.2.2.1 = σf) (hX2 : X.2.2.2 = .inl (none)) {k56 : St → Nat → Int32 → Int32 → Int32 → Int32 → Option (St × Unit)} (hk56 : ∀ (σ : St) (x0 : Nat) (x1 : Int32) (x2 : Int32) (x3 : Int32) (x4 : Int32), k56 σ x0 x1 x2 x3 x4 = some (σf, r) → G MtX12_multiplies X σ 56 [(0, rv x0), (1, .int x1), (2, .int x2), (3, .int x3), (4, .int x4)] []) : ∀ (n : Nat) (σ : St) (x0 : Nat) (x1 : Int32) (x2 : Int32) (x3 : Int32) (x4 : Int32) (x5 : Int32) (x6 : Int32), fX12_multiplies_73 k56 n σ x0 x1 x2 x3 x4 x5 x6 = some (σf, r) → G MtX12_multiplies X σ 73 [(0, rv x0), (1, .int x1), (2, .int x2), (3, .int x3), (4, .int x4), (5, .int x5), (6, .int x6)] [] := by
  intro n
  induction n with
  | zero => intro σ x0 x1 x2 x3 x4 x5 x6 hf; cases hf
  | succ n ih =>
    intro σ x0 x1 x2 x3 x4 x5 x6 hf
    rw [fX12_multiplies_73] at hf
    refine g_iload (j := 6) dX12_multiplies_73 rfl ?_
    refine g_aload_n (j := 0) dX12_multiplies_75 rfl rfl ?_
    obtain ⟨v1, ev1, hf⟩ := ob hf
    refine g_getF dX12_multiplies_76 ev1 t_1969 hin16 hc16 (by decide) rfl ?_
    refine g_iload_n (j := 3) dX12_multiplies_79 rfl rfl ?_
    obtain ⟨v2, ev2, hf⟩ := ob hf
    refine g_iald dX12_multiplies_80 ev2 ?_
    refine g_icmp_lt (tgt := 89) dX12_multiplies_81 (by decide) (fun c3 => ?_) (fun c3 => ?_)
    · rw [if_pos c3] at hf
      exact bX12_multiplies_89 hX1 hX2 hk56 (fun σ x0 x1 x2 x3 x4 x5 x6 hf => ih σ x0 x1 x2 x3 x4 x5 x6 hf) hf
    · rw [if_neg c3] at hf
      refine g_iload (j := 5) dX12_multiplies_84 rfl ?_
      refine g_if_le (tgt := 168) dX12_multiplies_86 (by decide) (fun c4 => ?_) (fun c4 => ?_)
      · rw [if_pos c4] at hf
        obtain ⟨v5, ev5, hf⟩ := nm_el hf
        refine g_iinc (L' := [(4, .int v5), (0, rv x0), (1, .int x1), (2, .int x2), (3, .int x3), (5, .int x5), (6, .int x6)]) (j := 4) (v := v5) dX12_multiplies_168 rfl (by rw [ev5]; rfl) (Nat.le_of_ble_eq_true rfl) rfl ?_
        refine g_goto (tgt := 56) dX12_multiplies_171 (by decide) ?_
        refine g_sub (L' := [(0, rv x0), (1, .int x1), (2, .int x2), (3, .int x3), (4, .int v5)]) [1, 2, 3, 4, 0] rfl ?_
        exact hk56 _ _ _ _ _ _ hf
      · rw [if_neg c4] at hf
        exact bX12_multiplies_89 hX1 hX2 hk56 (fun σ x0 x1 x2 x3 x4 x5 x6 hf => ih σ x0 x1 x2 x3 x4 x5 x6 hf) hf

set_option maxRecDepth 100000 in
set_option maxHeartbeats 4000000 in
theorem bX12_multiplies_56 {X : Xt} {σf : St} {r : Unit} (hX1 : X.2.2.1 = σf) (hX2 : X.2.2.2 = .inl (none)) : ∀ (n : Nat) (σ : St) (x0 : Nat) (x1 : Int32) (x2 : Int32) (x3 : Int32) (x4 : Int32), fX12_multiplies_56 n σ x0 x1 x2 x3 x4 = some (σf, r) → G MtX12_multiplies X σ 56 [(0, rv x0), (1, .int x1), (2, .int x2), (3, .int x3), (4, .int x4)] [] := by
  intro n
  induction n with
  | zero => intro σ x0 x1 x2 x3 x4 hf; cases hf
  | succ n ih =>
    intro σ x0 x1 x2 x3 x4 hf
    rw [fX12_multiplies_56] at hf
    refine g_iload (j := 4) dX12_multiplies_56 rfl ?_
    refine g_aload_n (j := 0) dX12_multiplies_58 rfl rfl ?_
    obtain ⟨v1, ev1, hf⟩ := ob hf
    refine g_getF dX12_multiplies_59 ev1 t_1969 hin16 hc16 (by decide) rfl ?_
    refine g_iload_n (j := 2) dX12_multiplies_62 rfl rfl ?_
    obtain ⟨v2, ev2, hf⟩ := ob hf
    refine g_iald dX12_multiplies_63 ev2 ?_
    refine g_icmp_ge (tgt := 174) dX12_multiplies_64 (by decide) (fun c3 => ?_) (fun c3 => ?_)
    · rw [if_pos c3] at hf
      refine g_aload_n (j := 0) dX12_multiplies_174 rfl rfl ?_
      refine g_iload_n (j := 1) dX12_multiplies_175 rfl rfl ?_
      obtain ⟨_, h6, hf⟩ := ob hf
      obtain ⟨σ4, v5, eσ4, hf⟩ := cb_el hf
      refine g_callV_v dX12_multiplies_176 (wX12_trims _ eσ4) (okX12_trims _ (by decide) (by decide)) (ckK_el h6) hc16 t_1943 t_1945 s_X12_trims rfl (Nat.le_trans (cat_le _) (Nat.le_of_ble_eq_true rfl)) rfl ?_
      exact g_vret dX12_multiplies_179 rfl hX2 hX1 hf
    · rw [if_neg c3] at hf
      refine g_iconst (v := 0) dX12_multiplies_67 (by decide) ?_
      refine g_istore (i := 5) (L' := [(5, .int 0), (0, rv x0), (1, .int x1), (2, .int x2), (3, .int x3), (4, .int x4)]) dX12_multiplies_68 (Nat.le_of_ble_eq_true rfl) rfl ?_
      refine g_iconst (v := 0) dX12_multiplies_70 (by decide) ?_
      refine g_istore (i := 6) (L' := [(6, .int 0), (5, .int 0), (0, rv x0), (1, .int x1), (2, .int x2), (3, .int x3), (4, .int x4)]) dX12_multiplies_71 (Nat.le_of_ble_eq_true rfl) rfl ?_
      refine g_sub (L' := [(0, rv x0), (1, .int x1), (2, .int x2), (3, .int x3), (4, .int x4), (5, .int 0), (6, .int 0)]) [2, 3, 4, 5, 6, 1, 0] rfl ?_
      exact bX12_multiplies_73 hX1 hX2 (fun σ x0 x1 x2 x3 x4 hf => ih σ x0 x1 x2 x3 x4 hf) FU _ _ _ _ _ _ _ _ hf

set_option maxRecDepth 100000 in
set_option maxHeartbeats 4000000 in
theorem bX12_multiplies_22 {X : Xt} {σf : St} {r : Unit} (hX1 : X.2.2.1 = σf) (hX2 : X.2.2.2 = .inl (none)) : ∀ (n : Nat) (σ : St) (x0 : Nat) (x1 : Int32) (x2 : Int32) (x3 : Int32) (x4 : Int32), fX12_multiplies_22 n σ x0 x1 x2 x3 x4 = some (σf, r) → G MtX12_multiplies X σ 22 [(0, rv x0), (1, .int x1), (2, .int x2), (3, .int x3), (4, .int x4)] [] := by
  intro n
  induction n with
  | zero => intro σ x0 x1 x2 x3 x4 hf; cases hf
  | succ n ih =>
    intro σ x0 x1 x2 x3 x4 hf
    rw [fX12_multiplies_22] at hf
    refine g_iload (j := 4) dX12_multiplies_22 rfl ?_
    refine g_aload_n (j := 0) dX12_multiplies_24 rfl rfl ?_
    obtain ⟨v1, ev1, hf⟩ := ob hf
    refine g_getF dX12_multiplies_25 ev1 t_1969 hin16 hc16 (by decide) rfl ?_
    refine g_iload_n (j := 1) dX12_multiplies_28 rfl rfl ?_
    obtain ⟨v2, ev2, hf⟩ := ob hf
    refine g_iald dX12_multiplies_29 ev2 ?_
    refine g_icmp_ge (tgt := 53) dX12_multiplies_30 (by decide) (fun c3 => ?_) (fun c3 => ?_)
    · rw [if_pos c3] at hf
      refine g_iconst (v := 0) dX12_multiplies_53 (by decide) ?_
      refine g_istore (i := 4) (L' := [(4, .int 0), (0, rv x0), (1, .int x1), (2, .int x2), (3, .int x3)]) dX12_multiplies_54 (Nat.le_of_ble_eq_true rfl) rfl ?_
      refine g_sub (L' := [(0, rv x0), (1, .int x1), (2, .int x2), (3, .int x3), (4, .int 0)]) [1, 2, 3, 4, 0] rfl ?_
      exact bX12_multiplies_56 hX1 hX2 FU _ _ _ _ _ _ hf
    · rw [if_neg c3] at hf
      refine g_aload_n (j := 0) dX12_multiplies_33 rfl rfl ?_
      obtain ⟨v4, ev4, hf⟩ := ob hf
      refine g_getF dX12_multiplies_34 ev4 t_1968 hin16 hc16 (by decide) rfl ?_
      refine g_sipush (v := 1000) dX12_multiplies_37 (by decide) ?_
      refine g_iload_n (j := 1) dX12_multiplies_40 rfl rfl ?_
      refine g_imul dX12_multiplies_41 ?_
      refine g_iload (j := 4) dX12_multiplies_42 rfl ?_
      refine g_iadd dX12_multiplies_44 ?_
      refine g_iconst (v := 0) dX12_multiplies_45 (by decide) ?_
      obtain ⟨σ5, eσ5, hf⟩ := ob hf
      refine g_iast dX12_multiplies_46 eσ5 ?_
      obtain ⟨v6, ev6, hf⟩ := nm_el hf
      refine g_iinc (L' := [(4, .int v6), (0, rv x0), (1, .int x1), (2, .int x2), (3, .int x3)]) (j := 4) (v := v6) dX12_multiplies_47 rfl (by rw [ev6]; rfl) (Nat.le_of_ble_eq_true rfl) rfl ?_
      refine g_goto (tgt := 22) dX12_multiplies_50 (by decide) ?_
      refine g_sub (L' := [(0, rv x0), (1, .int x1), (2, .int x2), (3, .int x3), (4, .int v6)]) [1, 2, 3, 4, 0] rfl ?_
      exact ih _ _ _ _ _ _ hf

set_option maxRecDepth 100000 in
set_option maxHeartbeats 4000000 in
theorem wX12_multiplies (l : Launch) {σ σf : St} {x0 : Nat} {x1 : Int32} {x2 : Int32} {x3 : Int32} {r : Unit} (hf : fX12_multiplies σ x0 x1 x2 x3 = some (σf, r)) : Con MtX12_multiplies yX12_multiplies l σ [rv x0, .int x1, .int x2, .int x3] σf (none) := by
  refine Con.of (by decide +kernel) rfl (fun h => absurd (show false = true from h) (by decide)) (by simp only [sl_n, sl_r, sl_i, sl_l]; exact Nat.le_of_ble_eq_true rfl) ?_
  rw [show lv_args 0 [rv x0, .int x1, .int x2, .int x3] = [(0, rv x0), (1, .int x1), (2, .int x2), (3, .int x3)] by simp only [la_n, la_r, la_i, la_l] <;> rfl]
  have hX1 : ((l, σ, σf, .inl (none)) : Xt).2.2.1 = σf := rfl
  have hX2 : ((l, σ, σf, .inl (none)) : Xt).2.2.2 = .inl (none) := rfl
  unfold fX12_multiplies at hf
  refine g_aload_n (j := 0) dX12_multiplies_0 rfl rfl ?_
  obtain ⟨v1, ev1, hf⟩ := ob hf
  refine g_getF dX12_multiplies_1 ev1 t_1969 hin16 hc16 (by decide) rfl ?_
  refine g_iload_n (j := 1) dX12_multiplies_4 rfl rfl ?_
  refine g_aload_n (j := 0) dX12_multiplies_5 rfl rfl ?_
  obtain ⟨v2, ev2, hf⟩ := ob hf
  refine g_getF dX12_multiplies_6 ev2 t_1969 hin16 hc16 (by decide) rfl ?_
  refine g_iload_n (j := 2) dX12_multiplies_9 rfl rfl ?_
  obtain ⟨v3, ev3, hf⟩ := ob hf
  refine g_iald dX12_multiplies_10 ev3 ?_
  refine g_aload_n (j := 0) dX12_multiplies_11 rfl rfl ?_
  obtain ⟨v4, ev4, hf⟩ := ob hf
  refine g_getF dX12_multiplies_12 ev4 t_1969 hin16 hc16 (by decide) rfl ?_
  refine g_iload_n (j := 3) dX12_multiplies_15 rfl rfl ?_
  obtain ⟨v5, ev5, hf⟩ := ob hf
  refine g_iald dX12_multiplies_16 ev5 ?_
  refine g_iadd dX12_multiplies_17 ?_
  obtain ⟨σ6, eσ6, hf⟩ := ob hf
  refine g_iast dX12_multiplies_18 eσ6 ?_
  refine g_iconst (v := 0) dX12_multiplies_19 (by decide) ?_
  refine g_istore (i := 4) (L' := [(4, .int 0), (0, rv x0), (1, .int x1), (2, .int x2), (3, .int x3)]) dX12_multiplies_20 (Nat.le_of_ble_eq_true rfl) rfl ?_
  refine g_sub (L' := [(0, rv x0), (1, .int x1), (2, .int x2), (3, .int x3), (4, .int 0)]) [1, 2, 3, 4, 0] rfl ?_
  exact bX12_multiplies_22 hX1 hX2 FU _ _ _ _ _ _ hf

theorem okX12_multiplies (M : Mt) (h1 : 2 + 1 ≤ M.2.2.2.2.1) (h2 : 8 + (8 + 11) + 106 ≤ M.2.2.2.2.2.1) : CallOk M MtX12_multiplies yX12_multiplies 3 := ⟨t_2313, h1, h2, ⟨by decide, by decide⟩, by decide +kernel, t_16⟩
abbrev MtX12_keepsMade : Mt := (cX12_keepsMade, 3, "ExactlySaidModel", (Option.some Jvm.ClassFile.FieldType.int), 7, 233, false)
set_option maxRecDepth 100000 in
set_option maxHeartbeats 4000000 in
theorem wX12_keepsMade (l : Launch) {σ σf : St} {x0 : Nat} {x1 : Int32} {r : Int32} (hf : fX12_keepsMade σ x0 x1 = some (σf, r)) : Con MtX12_keepsMade yX12_keepsMade l σ [rv x0, .int x1] σf (some (.int r)) := by
  refine Con.of (by decide +kernel) rfl (fun h => absurd (show false = true from h) (by decide)) (by simp only [sl_n, sl_r, sl_i, sl_l]; exact Nat.le_of_ble_eq_true rfl) ?_
  rw [show lv_args 0 [rv x0, .int x1] = [(0, rv x0), (1, .int x1)] by simp only [la_n, la_r, la_i, la_l] <;> rfl]
  have hX1 : ((l, σ, σf, .inl (some (.int r))) : Xt).2.2.1 = σf := rfl
  have hX2 : ((l, σ, σf, .inl (some (.int r))) : Xt).2.2.2 = .inl (some (.int r)) := rfl
  unfold fX12_keepsMade at hf
  refine g_aload_n (j := 0) dX12_keepsMade_0 rfl rfl ?_
  obtain ⟨_, h3, hf⟩ := ob hf
  obtain ⟨σ1, v2, eσ1, hf⟩ := cb_el hf
  refine g_callV_i dX12_keepsMade_1 (wX12_newValue _ eσ1) (okX12_newValue _ (by decide) (by decide)) (ckK_el h3) hc16 t_1907 t_1909 s_X12_newValue rfl (Nat.le_trans (cat_le _) (Nat.le_of_ble_eq_true rfl)) rfl ?_
  refine g_istore_n (i := 2) (L' := [(2, .int v2), (0, rv x0), (1, .int x1)]) dX12_keepsMade_4 rfl (Nat.le_of_ble_eq_true rfl) rfl ?_
  refine g_aload_n (j := 1) dX12_keepsMade_5 rfl rfl ?_
  refine g_iload_n (j := 0) dX12_keepsMade_6 rfl rfl ?_
  refine g_iload_n (j := 2) dX12_keepsMade_7 rfl rfl ?_
  obtain ⟨_, h6, hf⟩ := ob hf
  obtain ⟨σ4, v5, eσ4, hf⟩ := cb_el hf
  refine g_callV_i dX12_keepsMade_8 (wX12_lays _ eσ4) (okX12_lays _ (by decide) (by decide)) (ckK_el h6) hc16 t_1915 t_1917 s_X12_lays rfl (Nat.le_trans (cat_le _) (Nat.le_of_ble_eq_true rfl)) rfl ?_
  refine g_if_eq (tgt := 16) dX12_keepsMade_11 (by decide) (fun c7 => ?_) (fun c7 => ?_)
  · rw [if_pos c7] at hf
    refine g_aload_n (j := 1) dX12_keepsMade_16 rfl rfl ?_
    refine g_dup dX12_keepsMade_17 (rv_cat _) ?_
    obtain ⟨v8, ev8, hf⟩ := ob hf
    refine g_getI dX12_keepsMade_18 ev8 t_1972 hin16 hc16 (by decide) rfl ?_
    refine g_iconst (v := 1) dX12_keepsMade_21 (by decide) ?_
    refine g_isub dX12_keepsMade_22 ?_
    obtain ⟨σ9, eσ9, hf⟩ := ob hf
    refine g_putI dX12_keepsMade_23 eσ9 (Or.inl t_1972) hin16 hc16 (by decide) hty16 hnm16 (Or.inl rfl) rfl rfl rfl ?_
    refine g_iconst (v := (-1)) dX12_keepsMade_26 (by decide) ?_
    exact g_iret dX12_keepsMade_27 rfl rfl hX2 hX1 hf
  · rw [if_neg c7] at hf
    refine g_iload_n (j := 0) dX12_keepsMade_14 rfl rfl ?_
    exact g_iret dX12_keepsMade_15 rfl rfl hX2 hX1 hf

theorem okX12_keepsMade (M : Mt) (h1 : 7 + 1 ≤ M.2.2.2.2.1) (h2 : 8 + (3 + 11) + 233 ≤ M.2.2.2.2.2.1) : CallOk M MtX12_keepsMade yX12_keepsMade 1 := ⟨t_2317, h1, h2, ⟨by decide, by decide⟩, by decide +kernel, t_16⟩
abbrev MtX12_makesNumber : Mt := (cX12_makesNumber, 4, "ExactlySaidModel", (Option.some Jvm.ClassFile.FieldType.int), 8, 255, false)
set_option maxRecDepth 100000 in
set_option maxHeartbeats 4000000 in
theorem bX12_makesNumber_155 {X : Xt} {σf : St} {r : Int32} (hX1 : X.2.2.1 = σf) (hX2 : X.2.2.2 = .inl (some (.int r))) {k56 : St → Nat → Int32 → Int32 → Option (St × Int32)} (hk56 : ∀ (σ : St) (x0 : Nat) (x1 : Int32) (x2 : Int32), k56 σ x0 x1 x2 = some (σf, r) → G MtX12_makesNumber X σ 56 [(0, rv x0), (1, .int x1), (2, .int x2)] []) {σ : St} {x0 : Nat} {x1 : Int32} {x2 : Int32} (hf : fX12_makesNumber_155 k56 σ x0 x1 x2 = some (σf, r)) : G MtX12_makesNumber X σ 155 [(0, rv x0), (1, .int x1), (2, .int x2)] [] := by
  unfold fX12_makesNumber_155 at hf
  obtain ⟨v1, ev1, hf⟩ := nm_el hf
  refine g_iinc (L' := [(2, .int v1), (0, rv x0), (1, .int x1)]) (j := 2) (v := v1) dX12_makesNumber_155 rfl (by rw [ev1]; rfl) (Nat.le_of_ble_eq_true rfl) rfl ?_
  refine g_goto (tgt := 56) dX12_makesNumber_158 (by decide) ?_
  refine g_sub (L' := [(0, rv x0), (1, .int x1), (2, .int v1)]) [1, 2, 0] rfl ?_
  exact hk56 _ _ _ _ hf

set_option maxRecDepth 100000 in
set_option maxHeartbeats 4000000 in
theorem bX12_makesNumber_147 {X : Xt} {σf : St} {r : Int32} (hX1 : X.2.2.1 = σf) (hX2 : X.2.2.2 = .inl (some (.int r))) {k56 : St → Nat → Int32 → Int32 → Option (St × Int32)} (hk56 : ∀ (σ : St) (x0 : Nat) (x1 : Int32) (x2 : Int32), k56 σ x0 x1 x2 = some (σf, r) → G MtX12_makesNumber X σ 56 [(0, rv x0), (1, .int x1), (2, .int x2)] []) {σ : St} {x0 : Nat} {x1 : Int32} {x2 : Int32} (hf : fX12_makesNumber_147 k56 σ x0 x1 x2 = some (σf, r)) : G MtX12_makesNumber X σ 147 [(0, rv x0), (1, .int x1), (2, .int x2)] [] := by
  unfold fX12_makesNumber_147 at hf
  refine g_aload_n (j := 0) dX12_makesNumber_147 rfl rfl ?_
  refine g_bipush (v := 7) dX12_makesNumber_148 (by decide) ?_
  refine g_bipush (v := 10) dX12_makesNumber_150 (by decide) ?_
  obtain ⟨_, h3, hf⟩ := ob hf
  obtain ⟨σ1, v2, eσ1, hf⟩ := cb_el hf
  refine g_callV_v dX12_makesNumber_152 (wX12_times _ eσ1) (okX12_times _ (by decide) (by decide)) (ckK_el h3) hc16 t_1947 t_1949 s_X12_times rfl (Nat.le_trans (cat_le _) (Nat.le_of_ble_eq_true rfl)) rfl ?_
  exact bX12_makesNumber_155 hX1 hX2 hk56 hf

set_option maxRecDepth 100000 in
set_option maxHeartbeats 4000000 in
theorem bX12_makesNumber_83 {X : Xt} {σf : St} {r : Int32} (hX1 : X.2.2.1 = σf) (hX2 : X.2.2.2 = .inl (some (.int r))) {k56 : St → Nat → Int32 → Int32 → Option (St × Int32)} (hk56 : ∀ (σ : St) (x0 : Nat) (x1 : Int32) (x2 : Int32), k56 σ x0 x1 x2 = some (σf, r) → G MtX12_makesNumber X σ 56 [(0, rv x0), (1, .int x1), (2, .int x2)] []) {σ : St} {x0 : Nat} {x1 : Int32} {x2 : Int32} (hf : fX12_makesNumber_83 k56 σ x0 x1 x2 = some (σf, r)) : G MtX12_makesNumber X σ 83 [(0, rv x0), (1, .int x1), (2, .int x2)] [] := by
  unfold fX12_makesNumber_83 at hf
  refine g_aload_n (j := 0) dX12_makesNumber_83 rfl rfl ?_
  obtain ⟨v1, ev1, hf⟩ := ob hf
  refine g_getF dX12_makesNumber_84 ev1 t_1974 hin16 hc16 (by decide) rfl ?_
  refine g_iload_n (j := 2) dX12_makesNumber_87 rfl rfl ?_
  obtain ⟨v2, ev2, hf⟩ := ob hf
  refine g_iald dX12_makesNumber_88 ev2 ?_
  obtain ⟨σ3, v4, eσ3, hf⟩ := cb_el hf
  refine g_callS_i dX12_makesNumber_89 (wX12_isDigit _ eσ3) (okX12_isDigit _ (by decide) (by decide)) t_2264 t_2265 rfl (Nat.le_trans (cat_le _) (Nat.le_of_ble_eq_true rfl)) rfl ?_
  refine g_if_ne (tgt := 98) dX12_makesNumber_92 (by decide) (fun c5 => ?_) (fun c5 => ?_)
  · rw [if_neg c5] at hf
    refine g_aload_n (j := 0) dX12_makesNumber_98 rfl rfl ?_
    refine g_bipush (v := 6) dX12_makesNumber_99 (by decide) ?_
    refine g_bipush (v := 10) dX12_makesNumber_101 (by decide) ?_
    obtain ⟨_, h8, hf⟩ := ob hf
    obtain ⟨σ6, v7, eσ6, hf⟩ := cb_el hf
    refine g_callV_v dX12_makesNumber_103 (wX12_times _ eσ6) (okX12_times _ (by decide) (by decide)) (ckK_el h8) hc16 t_1947 t_1949 s_X12_times rfl (Nat.le_trans (cat_le _) (Nat.le_of_ble_eq_true rfl)) rfl ?_
    refine g_aload_n (j := 0) dX12_makesNumber_106 rfl rfl ?_
    refine g_iconst (v := 4) dX12_makesNumber_107 (by decide) ?_
    refine g_aload_n (j := 0) dX12_makesNumber_108 rfl rfl ?_
    obtain ⟨v9, ev9, hf⟩ := ob hf
    refine g_getF dX12_makesNumber_109 ev9 t_1974 hin16 hc16 (by decide) rfl ?_
    refine g_iload_n (j := 2) dX12_makesNumber_112 rfl rfl ?_
    obtain ⟨v10, ev10, hf⟩ := ob hf
    refine g_iald dX12_makesNumber_113 ev10 ?_
    refine g_bipush (v := 48) dX12_makesNumber_114 (by decide) ?_
    refine g_isub dX12_makesNumber_116 ?_
    obtain ⟨_, h13, hf⟩ := ob hf
    obtain ⟨σ11, v12, eσ11, hf⟩ := cb_el hf
    refine g_callV_v dX12_makesNumber_117 (wX12_puts _ eσ11) (okX12_puts _ (by decide) (by decide)) (ckK_el h13) hc16 t_1911 t_1913 s_X12_puts rfl (Nat.le_trans (cat_le _) (Nat.le_of_ble_eq_true rfl)) rfl ?_
    refine g_aload_n (j := 0) dX12_makesNumber_120 rfl rfl ?_
    refine g_bipush (v := 6) dX12_makesNumber_121 (by decide) ?_
    refine g_iconst (v := 4) dX12_makesNumber_123 (by decide) ?_
    obtain ⟨_, h16, hf⟩ := ob hf
    obtain ⟨σ14, v15, eσ14, hf⟩ := cb_el hf
    refine g_callV_v dX12_makesNumber_124 (wX12_adds _ eσ14) (okX12_adds _ (by decide) (by decide)) (ckK_el h16) hc16 t_2302 t_2304 s_X12_adds rfl (Nat.le_trans (cat_le _) (Nat.le_of_ble_eq_true rfl)) rfl ?_
    refine g_iload_n (j := 2) dX12_makesNumber_127 rfl rfl ?_
    refine g_aload_n (j := 0) dX12_makesNumber_128 rfl rfl ?_
    obtain ⟨v17, ev17, hf⟩ := ob hf
    refine g_getI dX12_makesNumber_129 ev17 t_1981 hin16 hc16 (by decide) rfl ?_
    refine g_icmp_le (tgt := 155) dX12_makesNumber_132 (by decide) (fun c18 => ?_) (fun c18 => ?_)
    · rw [if_pos c18] at hf
      exact bX12_makesNumber_155 hX1 hX2 hk56 hf
    · rw [if_neg c18] at hf
      refine g_iload_n (j := 1) dX12_makesNumber_135 rfl rfl ?_
      refine g_if_eq (tgt := 147) dX12_makesNumber_136 (by decide) (fun c19 => ?_) (fun c19 => ?_)
      · rw [if_pos c19] at hf
        exact bX12_makesNumber_147 hX1 hX2 hk56 hf
      · rw [if_neg c19] at hf
        refine g_iload_n (j := 2) dX12_makesNumber_139 rfl rfl ?_
        refine g_aload_n (j := 0) dX12_makesNumber_140 rfl rfl ?_
        obtain ⟨v20, ev20, hf⟩ := ob hf
        refine g_getI dX12_makesNumber_141 ev20 t_1982 hin16 hc16 (by decide) rfl ?_
        refine g_icmp_ge (tgt := 155) dX12_makesNumber_144 (by decide) (fun c21 => ?_) (fun c21 => ?_)
        · rw [if_pos c21] at hf
          exact bX12_makesNumber_155 hX1 hX2 hk56 hf
        · rw [if_neg c21] at hf
          exact bX12_makesNumber_147 hX1 hX2 hk56 hf
  · rw [if_pos c5] at hf
    refine g_goto (tgt := 155) dX12_makesNumber_95 (by decide) ?_
    exact bX12_makesNumber_155 hX1 hX2 hk56 hf

set_option maxRecDepth 100000 in
set_option maxHeartbeats 4000000 in
theorem bX12_makesNumber_226 {X : Xt} {σf : St} {r : Int32} (hX1 : X.2.2.1 = σf) (hX2 : X.2.2.2 = .inl (some (.int r))) {σ : St} {x0 : Nat} (hf : fX12_makesNumber_226 σ x0 = some (σf, r)) : G MtX12_makesNumber X σ 226 [(0, rv x0)] [] := by
  unfold fX12_makesNumber_226 at hf
  refine g_aload_n (j := 0) dX12_makesNumber_226 rfl rfl ?_
  refine g_iconst (v := 1) dX12_makesNumber_227 (by decide) ?_
  obtain ⟨_, h3, hf⟩ := ob hf
  obtain ⟨σ1, v2, eσ1, hf⟩ := cb_el hf
  refine g_callV_i dX12_makesNumber_228 (wX12_keepsMade _ eσ1) (okX12_keepsMade _ (by decide) (by decide)) (ckK_el h3) hc16 t_2314 t_2316 s_X12_keepsMade rfl (Nat.le_trans (cat_le _) (Nat.le_of_ble_eq_true rfl)) rfl ?_
  exact g_iret dX12_makesNumber_231 rfl rfl hX2 hX1 hf

set_option maxRecDepth 100000 in
set_option maxHeartbeats 4000000 in
theorem bX12_makesNumber_181 {X : Xt} {σf : St} {r : Int32} (hX1 : X.2.2.1 = σf) (hX2 : X.2.2.2 = .inl (some (.int r))) : ∀ (n : Nat) (σ : St) (x0 : Nat) (x2 : Int32) (x3 : Int32), fX12_makesNumber_181 n σ x0 x2 x3 = some (σf, r) → G MtX12_makesNumber X σ 181 [(0, rv x0), (2, .int x2), (3, .int x3)] [] := by
  intro n
  induction n with
  | zero => intro σ x0 x2 x3 hf; cases hf
  | succ n ih =>
    intro σ x0 x2 x3 hf
    rw [fX12_makesNumber_181] at hf
    refine g_iload_n (j := 2) dX12_makesNumber_181 rfl rfl ?_
    refine g_aload_n (j := 0) dX12_makesNumber_182 rfl rfl ?_
    obtain ⟨v1, ev1, hf⟩ := ob hf
    refine g_getI dX12_makesNumber_183 ev1 t_1983 hin16 hc16 (by decide) rfl ?_
    refine g_iconst (v := 1) dX12_makesNumber_186 (by decide) ?_
    refine g_isub dX12_makesNumber_187 ?_
    refine g_icmp_ge (tgt := 205) dX12_makesNumber_188 (by decide) (fun c2 => ?_) (fun c2 => ?_)
    · rw [if_pos c2] at hf
      refine g_aload_n (j := 0) dX12_makesNumber_205 rfl rfl ?_
      refine g_iconst (v := 4) dX12_makesNumber_206 (by decide) ?_
      refine g_iload_n (j := 1) dX12_makesNumber_207 rfl rfl ?_
      obtain ⟨_, h5, hf⟩ := ob hf
      obtain ⟨σ3, v4, eσ3, hf⟩ := cb_el hf
      refine g_callV_v dX12_makesNumber_208 (wX12_puts _ eσ3) (okX12_puts _ (by decide) (by decide)) (ckK_el h5) hc16 t_1911 t_1913 s_X12_puts rfl (Nat.le_trans (cat_le _) (Nat.le_of_ble_eq_true rfl)) rfl ?_
      refine g_aload_n (j := 0) dX12_makesNumber_211 rfl rfl ?_
      refine g_iconst (v := 5) dX12_makesNumber_212 (by decide) ?_
      refine g_bipush (v := 7) dX12_makesNumber_213 (by decide) ?_
      refine g_iconst (v := 4) dX12_makesNumber_215 (by decide) ?_
      obtain ⟨_, h8, hf⟩ := ob hf
      obtain ⟨σ6, v7, eσ6, hf⟩ := cb_el hf
      refine g_callV_v dX12_makesNumber_216 (wX12_multiplies _ eσ6) (okX12_multiplies _ (by decide) (by decide)) (ckK_el h8) hc16 t_2310 t_2312 s_X12_multiplies rfl (Nat.le_trans (cat_le _) (Nat.le_of_ble_eq_true rfl)) rfl ?_
      refine g_aload_n (j := 0) dX12_makesNumber_219 rfl rfl ?_
      refine g_bipush (v := 7) dX12_makesNumber_220 (by decide) ?_
      refine g_iconst (v := 5) dX12_makesNumber_222 (by decide) ?_
      obtain ⟨_, h11, hf⟩ := ob hf
      obtain ⟨σ9, v10, eσ9, hf⟩ := cb_el hf
      refine g_callV_v dX12_makesNumber_223 (wX12_copies _ eσ9) (okX12_copies _ (by decide) (by decide)) (ckK_el h11) hc16 t_1927 t_1929 s_X12_copies rfl (Nat.le_trans (cat_le _) (Nat.le_of_ble_eq_true rfl)) rfl ?_
      refine g_sub (L' := [(0, rv x0)]) [0] rfl ?_
      exact bX12_makesNumber_226 hX1 hX2 hf
    · rw [if_neg c2] at hf
      refine g_bipush (v := 10) dX12_makesNumber_191 (by decide) ?_
      refine g_iload_n (j := 1) dX12_makesNumber_193 rfl rfl ?_
      refine g_imul dX12_makesNumber_194 ?_
      refine g_bipush (v := 9) dX12_makesNumber_195 (by decide) ?_
      refine g_iadd dX12_makesNumber_197 ?_
      obtain ⟨v12, ev12, hf⟩ := nm_el hf
      refine g_topI ev12 ?_
      refine g_istore_n (i := 2) (L' := [(2, .int v12), (0, rv x0), (3, .int x3)]) dX12_makesNumber_198 rfl (Nat.le_of_ble_eq_true rfl) rfl ?_
      obtain ⟨v13, ev13, hf⟩ := nm_el hf
      refine g_iinc (L' := [(3, .int v13), (2, .int v12), (0, rv x0)]) (j := 2) (v := v13) dX12_makesNumber_199 rfl (by rw [ev13]; rfl) (Nat.le_of_ble_eq_true rfl) rfl ?_
      refine g_goto (tgt := 181) dX12_makesNumber_202 (by decide) ?_
      refine g_sub (L' := [(0, rv x0), (2, .int v12), (3, .int v13)]) [2, 1, 0] rfl ?_
      exact ih _ _ _ _ hf

set_option maxRecDepth 100000 in
set_option maxHeartbeats 4000000 in
theorem bX12_makesNumber_56 {X : Xt} {σf : St} {r : Int32} (hX1 : X.2.2.1 = σf) (hX2 : X.2.2.2 = .inl (some (.int r))) : ∀ (n : Nat) (σ : St) (x0 : Nat) (x1 : Int32) (x2 : Int32), fX12_makesNumber_56 n σ x0 x1 x2 = some (σf, r) → G MtX12_makesNumber X σ 56 [(0, rv x0), (1, .int x1), (2, .int x2)] [] := by
  intro n
  induction n with
  | zero => intro σ x0 x1 x2 hf; cases hf
  | succ n ih =>
    intro σ x0 x1 x2 hf
    rw [fX12_makesNumber_56] at hf
    refine g_iload_n (j := 2) dX12_makesNumber_56 rfl rfl ?_
    refine g_aload_n (j := 0) dX12_makesNumber_57 rfl rfl ?_
    obtain ⟨v1, ev1, hf⟩ := ob hf
    refine g_getI dX12_makesNumber_58 ev1 t_1983 hin16 hc16 (by decide) rfl ?_
    refine g_icmp_ge (tgt := 161) dX12_makesNumber_61 (by decide) (fun c2 => ?_) (fun c2 => ?_)
    · rw [if_pos c2] at hf
      refine g_iload_n (j := 1) dX12_makesNumber_161 rfl rfl ?_
      refine g_if_eq (tgt := 226) dX12_makesNumber_162 (by decide) (fun c3 => ?_) (fun c3 => ?_)
      · rw [if_pos c3] at hf
        refine g_sub (L' := [(0, rv x0)]) [0] rfl ?_
        exact bX12_makesNumber_226 hX1 hX2 hf
      · rw [if_neg c3] at hf
        refine g_aload_n (j := 0) dX12_makesNumber_165 rfl rfl ?_
        refine g_bipush (v := 6) dX12_makesNumber_166 (by decide) ?_
        refine g_iconst (v := 5) dX12_makesNumber_168 (by decide) ?_
        obtain ⟨_, h6, hf⟩ := ob hf
        obtain ⟨σ4, v5, eσ4, hf⟩ := cb_el hf
        refine g_callV_v dX12_makesNumber_169 (wX12_takesAway _ eσ4) (okX12_takesAway _ (by decide) (by decide)) (ckK_el h6) hc16 t_2306 t_2308 s_X12_takesAway rfl (Nat.le_trans (cat_le _) (Nat.le_of_ble_eq_true rfl)) rfl ?_
        refine g_iconst (v := 0) dX12_makesNumber_172 (by decide) ?_
        refine g_istore_n (i := 2) (L' := [(2, .int 0), (0, rv x0), (1, .int x1)]) dX12_makesNumber_173 rfl (Nat.le_of_ble_eq_true rfl) rfl ?_
        refine g_aload_n (j := 1) dX12_makesNumber_174 rfl rfl ?_
        obtain ⟨v7, ev7, hf⟩ := ob hf
        refine g_getI dX12_makesNumber_175 ev7 t_1982 hin16 hc16 (by decide) rfl ?_
        refine g_iconst (v := 1) dX12_makesNumber_178 (by decide) ?_
        refine g_iadd dX12_makesNumber_179 ?_
        obtain ⟨v8, ev8, hf⟩ := nm_el hf
        refine g_topI ev8 ?_
        refine g_istore_n (i := 3) (L' := [(3, .int v8), (2, .int 0), (0, rv x0), (1, .int x1)]) dX12_makesNumber_180 rfl (Nat.le_of_ble_eq_true rfl) rfl ?_
        refine g_sub (L' := [(0, rv x0), (2, .int 0), (3, .int v8)]) [2, 1, 0] rfl ?_
        exact bX12_makesNumber_181 hX1 hX2 FU _ _ _ _ hf
    · rw [if_neg c2] at hf
      refine g_iload_n (j := 2) dX12_makesNumber_64 rfl rfl ?_
      refine g_aload_n (j := 0) dX12_makesNumber_65 rfl rfl ?_
      obtain ⟨v9, ev9, hf⟩ := ob hf
      refine g_getI dX12_makesNumber_66 ev9 t_1982 hin16 hc16 (by decide) rfl ?_
      refine g_icmp_ne (tgt := 83) dX12_makesNumber_69 (by decide) (fun c10 => ?_) (fun c10 => ?_)
      · rw [if_neg c10] at hf
        exact bX12_makesNumber_83 hX1 hX2 (fun σ x0 x1 x2 hf => ih σ x0 x1 x2 hf) hf
      · rw [if_pos c10] at hf
        refine g_iload_n (j := 1) dX12_makesNumber_72 rfl rfl ?_
        refine g_if_eq (tgt := 83) dX12_makesNumber_73 (by decide) (fun c11 => ?_) (fun c11 => ?_)
        · rw [if_pos c11] at hf
          exact bX12_makesNumber_83 hX1 hX2 (fun σ x0 x1 x2 hf => ih σ x0 x1 x2 hf) hf
        · rw [if_neg c11] at hf
          refine g_aload_n (j := 0) dX12_makesNumber_76 rfl rfl ?_
          refine g_iconst (v := 5) dX12_makesNumber_77 (by decide) ?_
          refine g_bipush (v := 6) dX12_makesNumber_78 (by decide) ?_
          obtain ⟨_, h14, hf⟩ := ob hf
          obtain ⟨σ12, v13, eσ12, hf⟩ := cb_el hf
          refine g_callV_v dX12_makesNumber_80 (wX12_copies _ eσ12) (okX12_copies _ (by decide) (by decide)) (ckK_el h14) hc16 t_1927 t_1929 s_X12_copies rfl (Nat.le_trans (cat_le _) (Nat.le_of_ble_eq_true rfl)) rfl ?_
          exact bX12_makesNumber_83 hX1 hX2 (fun σ x0 x1 x2 hf => ih σ x0 x1 x2 hf) hf

set_option maxRecDepth 100000 in
set_option maxHeartbeats 4000000 in
theorem bX12_makesNumber_50 {X : Xt} {σf : St} {r : Int32} (hX1 : X.2.2.1 = σf) (hX2 : X.2.2.2 = .inl (some (.int r))) {σ : St} {x0 : Nat} {y0 : Int32} (hf : fX12_makesNumber_50 σ x0 y0 = some (σf, r)) : G MtX12_makesNumber X σ 50 [(0, rv x0)] [.int y0] := by
  unfold fX12_makesNumber_50 at hf
  refine g_istore_n (i := 1) (L' := [(1, .int y0), (0, rv x0)]) dX12_makesNumber_50 rfl (Nat.le_of_ble_eq_true rfl) (by simp [rv_cat]) ?_
  refine g_aload_n (j := 1) dX12_makesNumber_51 rfl rfl ?_
  obtain ⟨v1, ev1, hf⟩ := ob hf
  refine g_getI dX12_makesNumber_52 ev1 t_1978 hin16 hc16 (by decide) rfl ?_
  refine g_istore_n (i := 2) (L' := [(2, .int v1), (1, .int y0), (0, rv x0)]) dX12_makesNumber_55 rfl (Nat.le_of_ble_eq_true rfl) rfl ?_
  refine g_sub (L' := [(0, rv x0), (1, .int y0), (2, .int v1)]) [2, 1, 0] rfl ?_
  exact bX12_makesNumber_56 hX1 hX2 FU _ _ _ _ hf

set_option maxRecDepth 100000 in
set_option maxHeartbeats 4000000 in
theorem bX12_makesNumber_49 {X : Xt} {σf : St} {r : Int32} (hX1 : X.2.2.1 = σf) (hX2 : X.2.2.2 = .inl (some (.int r))) {σ : St} {x0 : Nat} (hf : fX12_makesNumber_49 σ x0 = some (σf, r)) : G MtX12_makesNumber X σ 49 [(0, rv x0)] [] := by
  unfold fX12_makesNumber_49 at hf
  refine g_iconst (v := 0) dX12_makesNumber_49 (by decide) ?_
  exact bX12_makesNumber_50 hX1 hX2 hf

set_option maxRecDepth 100000 in
set_option maxHeartbeats 4000000 in
theorem wX12_makesNumber (l : Launch) {σ σf : St} {x0 : Nat} {r : Int32} (hf : fX12_makesNumber σ x0 = some (σf, r)) : Con MtX12_makesNumber yX12_makesNumber l σ [rv x0] σf (some (.int r)) := by
  refine Con.of (by decide +kernel) rfl (fun h => absurd (show false = true from h) (by decide)) (by simp only [sl_n, sl_r, sl_i, sl_l]; exact Nat.le_of_ble_eq_true rfl) ?_
  rw [show lv_args 0 [rv x0] = [(0, rv x0)] by simp only [la_n, la_r, la_i, la_l] <;> rfl]
  have hX1 : ((l, σ, σf, .inl (some (.int r))) : Xt).2.2.1 = σf := rfl
  have hX2 : ((l, σ, σf, .inl (some (.int r))) : Xt).2.2.2 = .inl (some (.int r)) := rfl
  unfold fX12_makesNumber at hf
  refine g_aload_n (j := 0) dX12_makesNumber_0 rfl rfl ?_
  refine g_bipush (v := 6) dX12_makesNumber_1 (by decide) ?_
  refine g_iconst (v := 0) dX12_makesNumber_3 (by decide) ?_
  obtain ⟨_, h3, hf⟩ := ob hf
  obtain ⟨σ1, v2, eσ1, hf⟩ := cb_el hf
  refine g_callV_v dX12_makesNumber_4 (wX12_puts _ eσ1) (okX12_puts _ (by decide) (by decide)) (ckK_el h3) hc16 t_1911 t_1913 s_X12_puts rfl (Nat.le_trans (cat_le _) (Nat.le_of_ble_eq_true rfl)) rfl ?_
  refine g_aload_n (j := 0) dX12_makesNumber_7 rfl rfl ?_
  refine g_bipush (v := 7) dX12_makesNumber_8 (by decide) ?_
  refine g_iconst (v := 1) dX12_makesNumber_10 (by decide) ?_
  obtain ⟨_, h6, hf⟩ := ob hf
  obtain ⟨σ4, v5, eσ4, hf⟩ := cb_el hf
  refine g_callV_v dX12_makesNumber_11 (wX12_puts _ eσ4) (okX12_puts _ (by decide) (by decide)) (ckK_el h6) hc16 t_1911 t_1913 s_X12_puts rfl (Nat.le_trans (cat_le _) (Nat.le_of_ble_eq_true rfl)) rfl ?_
  refine g_aload_n (j := 0) dX12_makesNumber_14 rfl rfl ?_
  refine g_iconst (v := 5) dX12_makesNumber_15 (by decide) ?_
  refine g_iconst (v := 0) dX12_makesNumber_16 (by decide) ?_
  obtain ⟨_, h9, hf⟩ := ob hf
  obtain ⟨σ7, v8, eσ7, hf⟩ := cb_el hf
  refine g_callV_v dX12_makesNumber_17 (wX12_puts _ eσ7) (okX12_puts _ (by decide) (by decide)) (ckK_el h9) hc16 t_1911 t_1913 s_X12_puts rfl (Nat.le_trans (cat_le _) (Nat.le_of_ble_eq_true rfl)) rfl ?_
  refine g_aload_n (j := 0) dX12_makesNumber_20 rfl rfl ?_
  obtain ⟨v10, ev10, hf⟩ := ob hf
  refine g_getI dX12_makesNumber_21 ev10 t_1982 hin16 hc16 (by decide) rfl ?_
  refine g_aload_n (j := 0) dX12_makesNumber_24 rfl rfl ?_
  obtain ⟨v11, ev11, hf⟩ := ob hf
  refine g_getI dX12_makesNumber_25 ev11 t_1983 hin16 hc16 (by decide) rfl ?_
  refine g_icmp_ge (tgt := 49) dX12_makesNumber_28 (by decide) (fun c12 => ?_) (fun c12 => ?_)
  · rw [if_pos c12] at hf
    exact bX12_makesNumber_49 hX1 hX2 hf
  · rw [if_neg c12] at hf
    refine g_aload_n (j := 0) dX12_makesNumber_31 rfl rfl ?_
    obtain ⟨v13, ev13, hf⟩ := ob hf
    refine g_getF dX12_makesNumber_32 ev13 t_1974 hin16 hc16 (by decide) rfl ?_
    refine g_aload_n (j := 0) dX12_makesNumber_35 rfl rfl ?_
    obtain ⟨v14, ev14, hf⟩ := ob hf
    refine g_getI dX12_makesNumber_36 ev14 t_1982 hin16 hc16 (by decide) rfl ?_
    obtain ⟨v15, ev15, hf⟩ := ob hf
    refine g_iald dX12_makesNumber_39 ev15 ?_
    refine g_bipush (v := 91) dX12_makesNumber_40 (by decide) ?_
    refine g_icmp_ne (tgt := 49) dX12_makesNumber_42 (by decide) (fun c16 => ?_) (fun c16 => ?_)
    · rw [if_neg c16] at hf
      exact bX12_makesNumber_49 hX1 hX2 hf
    · rw [if_pos c16] at hf
      refine g_iconst (v := 1) dX12_makesNumber_45 (by decide) ?_
      refine g_goto (tgt := 50) dX12_makesNumber_46 (by decide) ?_
      exact bX12_makesNumber_50 hX1 hX2 hf

theorem okX12_makesNumber (M : Mt) (h1 : 8 + 1 ≤ M.2.2.2.2.1) (h2 : 8 + (4 + 11) + 255 ≤ M.2.2.2.2.2.1) : CallOk M MtX12_makesNumber yX12_makesNumber 0 := ⟨t_2301, h1, h2, ⟨by decide, by decide⟩, by decide +kernel, t_16⟩
