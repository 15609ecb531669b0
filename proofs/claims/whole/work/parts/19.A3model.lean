abbrev MtX12_nextDecimal : Mt := (cX12_nextDecimal, 1, "ExactlySaidModel", (Option.some Jvm.ClassFile.FieldType.int), 4, 168, false)
set_option maxRecDepth 100000 in
set_option maxHeartbeats 4000000 in
theorem wX12_nextDecimal (l : Launch) {σ σf : St} {x0 : Nat} {r : Int32} (hf : fX12_nextDecimal σ x0 = some (σf, r)) : Con MtX12_nextDecimal yX12_nextDecimal l σ [rv x0] σf (some (.int r)) := by
  refine Con.of (by decide +kernel) rfl (fun h => absurd (show false = true from h) (by decide)) (by simp only [sl_n, sl_r, sl_i, sl_l]; exact Nat.le_of_ble_eq_true rfl) ?_
  rw [show lv_args 0 [rv x0] = [(0, rv x0)] by simp only [la_n, la_r, la_i, la_l] <;> rfl]
  have hX1 : ((l, σ, σf, .inl (some (.int r))) : Xt).2.2.1 = σf := rfl
  have hX2 : ((l, σ, σf, .inl (some (.int r))) : Xt).2.2.2 = .inl (some (.int r)) := rfl
  unfold fX12_nextDecimal at hf
  refine g_aload_n (j := 0) dX12_nextDecimal_0 rfl rfl ?_
  refine g_bipush (v := 13) dX12_nextDecimal_1 (by decide) ?_
  refine g_bipush (v := 10) dX12_nextDecimal_3 (by decide) ?_
  obtain ⟨_, h3, hf⟩ := ob hf
  obtain ⟨σ1, v2, eσ1, hf⟩ := cb_el hf
  refine g_callV_v dX12_nextDecimal_5 (wX12_times _ eσ1) (okX12_times _ (by decide) (by decide)) (ckK_el h3) hc16 t_1947 t_1949 s_X12_times rfl (Nat.le_trans (cat_le _) (Nat.le_of_ble_eq_true rfl)) rfl ?_
  refine g_aload_n (j := 0) dX12_nextDecimal_8 rfl rfl ?_
  refine g_bipush (v := 13) dX12_nextDecimal_9 (by decide) ?_
  refine g_iconst (v := 1) dX12_nextDecimal_11 (by decide) ?_
  obtain ⟨_, h6, hf⟩ := ob hf
  obtain ⟨σ4, v5, eσ4, hf⟩ := cb_el hf
  refine g_callV_v dX12_nextDecimal_12 (wX12_divides _ eσ4) (okX12_divides _ (by decide) (by decide)) (ckK_el h6) hc16 t_1931 t_1933 s_X12_divides rfl (Nat.le_trans (cat_le _) (Nat.le_of_ble_eq_true rfl)) rfl ?_
  refine g_aload_n (j := 0) dX12_nextDecimal_15 rfl rfl ?_
  refine g_bipush (v := 13) dX12_nextDecimal_16 (by decide) ?_
  refine g_bipush (v := 10) dX12_nextDecimal_18 (by decide) ?_
  obtain ⟨_, h9, hf⟩ := ob hf
  obtain ⟨σ7, v8, eσ7, hf⟩ := cb_el hf
  refine g_callV_v dX12_nextDecimal_20 (wX12_copies _ eσ7) (okX12_copies _ (by decide) (by decide)) (ckK_el h9) hc16 t_1927 t_1929 s_X12_copies rfl (Nat.le_trans (cat_le _) (Nat.le_of_ble_eq_true rfl)) rfl ?_
  refine g_aload_n (j := 0) dX12_nextDecimal_23 rfl rfl ?_
  refine g_bipush (v := 9) dX12_nextDecimal_24 (by decide) ?_
  refine g_iconst (v := 0) dX12_nextDecimal_26 (by decide) ?_
  obtain ⟨_, h12, hf⟩ := ob hf
  obtain ⟨σ10, v11, eσ10, hf⟩ := cb_el hf
  refine g_callV_i dX12_nextDecimal_27 (wX12_limb _ eσ10) (okX12_limb _ (by decide) (by decide)) (ckK_el h12) hc16 t_1963 t_1965 s_X12_limb rfl (Nat.le_trans (cat_le _) (Nat.le_of_ble_eq_true rfl)) rfl ?_
  exact g_iret dX12_nextDecimal_30 rfl rfl hX2 hX1 hf

theorem okX12_nextDecimal (M : Mt) (h1 : 4 + 1 ≤ M.2.2.2.2.1) (h2 : 8 + (1 + 11) + 168 ≤ M.2.2.2.2.2.1) : CallOk M MtX12_nextDecimal yX12_nextDecimal 0 := ⟨t_2598, h1, h2, ⟨by decide, by decide⟩, by decide +kernel, t_16⟩
abbrev MtX12_writesDecimals : Mt := (cX12_writesDecimals, 4, "ExactlySaidModel", none, 5, 188, false)
set_option maxRecDepth 100000 in
set_option maxHeartbeats 4000000 in
theorem bX12_writesDecimals_33 {X : Xt} {σf : St} {r : Unit} (hX1 : X.2.2.1 = σf) (hX2 : X.2.2.2 = .inl (none)) {k15 : St → Nat → Int32 → Int32 → Int32 → Option (St × Unit)} (hk15 : ∀ (σ : St) (x0 : Nat) (x1 : Int32) (x2 : Int32) (x3 : Int32), k15 σ x0 x1 x2 x3 = some (σf, r) → G MtX12_writesDecimals X σ 15 [(0, rv x0), (1, .int x1), (2, .int x2), (3, .int x3)] []) {σ : St} {x0 : Nat} {x1 : Int32} {x2 : Int32} {x3 : Int32} (hf : fX12_writesDecimals_33 k15 σ x0 x1 x2 x3 = some (σf, r)) : G MtX12_writesDecimals X σ 33 [(0, rv x0), (1, .int x1), (2, .int x2), (3, .int x3)] [] := by
  unfold fX12_writesDecimals_33 at hf
  refine g_aload_n (j := 0) dX12_writesDecimals_33 rfl rfl ?_
  refine g_bipush (v := 48) dX12_writesDecimals_34 (by decide) ?_
  refine g_aload_n (j := 0) dX12_writesDecimals_36 rfl rfl ?_
  obtain ⟨_, h3, hf⟩ := ob hf
  obtain ⟨σ1, v2, eσ1, hf⟩ := cb_el hf
  refine g_callV_i dX12_writesDecimals_37 (wX12_nextDecimal _ eσ1) (okX12_nextDecimal _ (by decide) (by decide)) (ckK_el h3) hc16 t_2595 t_2597 s_X12_nextDecimal rfl (Nat.le_trans (cat_le _) (Nat.le_of_ble_eq_true rfl)) rfl ?_
  refine g_iadd dX12_writesDecimals_40 ?_
  obtain ⟨_, h6, hf⟩ := ob hf
  obtain ⟨σ4, v5, eσ4, hf⟩ := cb_el hf
  refine g_callV_v dX12_writesDecimals_41 (wX12_writes _ eσ4) (okX12_writes _ (by decide) (by decide)) (ckK_el h6) hc16 t_2567 t_2569 s_X12_writes rfl (Nat.le_trans (cat_le _) (Nat.le_of_ble_eq_true rfl)) rfl ?_
  obtain ⟨v7, ev7, hf⟩ := nm_el hf
  refine g_iinc (L' := [(3, .int v7), (0, rv x0), (1, .int x1), (2, .int x2)]) (j := 3) (v := v7) dX12_writesDecimals_44 rfl (by rw [ev7]; rfl) (Nat.le_of_ble_eq_true rfl) rfl ?_
  refine g_goto (tgt := 15) dX12_writesDecimals_47 (by decide) ?_
  refine g_sub (L' := [(0, rv x0), (1, .int x1), (2, .int x2), (3, .int v7)]) [1, 2, 3, 0] rfl ?_
  exact hk15 _ _ _ _ _ hf

set_option maxRecDepth 100000 in
set_option maxHeartbeats 4000000 in
theorem bX12_writesDecimals_15 {X : Xt} {σf : St} {r : Unit} (hX1 : X.2.2.1 = σf) (hX2 : X.2.2.2 = .inl (none)) : ∀ (n : Nat) (σ : St) (x0 : Nat) (x1 : Int32) (x2 : Int32) (x3 : Int32), fX12_writesDecimals_15 n σ x0 x1 x2 x3 = some (σf, r) → G MtX12_writesDecimals X σ 15 [(0, rv x0), (1, .int x1), (2, .int x2), (3, .int x3)] [] := by
  intro n
  induction n with
  | zero => intro σ x0 x1 x2 x3 hf; cases hf
  | succ n ih =>
    intro σ x0 x1 x2 x3 hf
    rw [fX12_writesDecimals_15] at hf
    refine g_iload_n (j := 3) dX12_writesDecimals_15 rfl rfl ?_
    refine g_iload_n (j := 1) dX12_writesDecimals_16 rfl rfl ?_
    refine g_iload_n (j := 2) dX12_writesDecimals_17 rfl rfl ?_
    refine g_iadd dX12_writesDecimals_18 ?_
    refine g_icmp_ge (tgt := 50) dX12_writesDecimals_19 (by decide) (fun c1 => ?_) (fun c1 => ?_)
    · rw [if_pos c1] at hf
      refine g_iload_n (j := 2) dX12_writesDecimals_50 rfl rfl ?_
      refine g_if_le (tgt := 60) dX12_writesDecimals_51 (by decide) (fun c2 => ?_) (fun c2 => ?_)
      · rw [if_pos c2] at hf
        exact g_vret dX12_writesDecimals_60 rfl hX2 hX1 hf
      · rw [if_neg c2] at hf
        refine g_aload_n (j := 0) dX12_writesDecimals_54 rfl rfl ?_
        refine g_bipush (v := 93) dX12_writesDecimals_55 (by decide) ?_
        obtain ⟨_, h5, hf⟩ := ob hf
        obtain ⟨σ3, v4, eσ3, hf⟩ := cb_el hf
        refine g_callV_v dX12_writesDecimals_57 (wX12_writes _ eσ3) (okX12_writes _ (by decide) (by decide)) (ckK_el h5) hc16 t_2567 t_2569 s_X12_writes rfl (Nat.le_trans (cat_le _) (Nat.le_of_ble_eq_true rfl)) rfl ?_
        exact g_vret dX12_writesDecimals_60 rfl hX2 hX1 hf
    · rw [if_neg c1] at hf
      refine g_iload_n (j := 3) dX12_writesDecimals_22 rfl rfl ?_
      refine g_iload_n (j := 1) dX12_writesDecimals_23 rfl rfl ?_
      refine g_icmp_ne (tgt := 33) dX12_writesDecimals_24 (by decide) (fun c6 => ?_) (fun c6 => ?_)
      · rw [if_neg c6] at hf
        exact bX12_writesDecimals_33 hX1 hX2 (fun σ x0 x1 x2 x3 hf => ih σ x0 x1 x2 x3 hf) hf
      · rw [if_pos c6] at hf
        refine g_aload_n (j := 0) dX12_writesDecimals_27 rfl rfl ?_
        refine g_bipush (v := 91) dX12_writesDecimals_28 (by decide) ?_
        obtain ⟨_, h9, hf⟩ := ob hf
        obtain ⟨σ7, v8, eσ7, hf⟩ := cb_el hf
        refine g_callV_v dX12_writesDecimals_30 (wX12_writes _ eσ7) (okX12_writes _ (by decide) (by decide)) (ckK_el h9) hc16 t_2567 t_2569 s_X12_writes rfl (Nat.le_trans (cat_le _) (Nat.le_of_ble_eq_true rfl)) rfl ?_
        exact bX12_writesDecimals_33 hX1 hX2 (fun σ x0 x1 x2 x3 hf => ih σ x0 x1 x2 x3 hf) hf

set_option maxRecDepth 100000 in
set_option maxHeartbeats 4000000 in
theorem wX12_writesDecimals (l : Launch) {σ σf : St} {x0 : Nat} {x1 : Int32} {x2 : Int32} {r : Unit} (hf : fX12_writesDecimals σ x0 x1 x2 = some (σf, r)) : Con MtX12_writesDecimals yX12_writesDecimals l σ [rv x0, .int x1, .int x2] σf (none) := by
  refine Con.of (by decide +kernel) rfl (fun h => absurd (show false = true from h) (by decide)) (by simp only [sl_n, sl_r, sl_i, sl_l]; exact Nat.le_of_ble_eq_true rfl) ?_
  rw [show lv_args 0 [rv x0, .int x1, .int x2] = [(0, rv x0), (1, .int x1), (2, .int x2)] by simp only [la_n, la_r, la_i, la_l] <;> rfl]
  have hX1 : ((l, σ, σf, .inl (none)) : Xt).2.2.1 = σf := rfl
  have hX2 : ((l, σ, σf, .inl (none)) : Xt).2.2.2 = .inl (none) := rfl
  unfold fX12_writesDecimals at hf
  refine g_iload_n (j := 1) dX12_writesDecimals_0 rfl rfl ?_
  refine g_iload_n (j := 2) dX12_writesDecimals_1 rfl rfl ?_
  refine g_iadd dX12_writesDecimals_2 ?_
  refine g_if_ne (tgt := 7) dX12_writesDecimals_3 (by decide) (fun c1 => ?_) (fun c1 => ?_)
  · rw [if_neg c1] at hf
    refine g_aload_n (j := 0) dX12_writesDecimals_7 rfl rfl ?_
    refine g_bipush (v := 46) dX12_writesDecimals_8 (by decide) ?_
    obtain ⟨_, h4, hf⟩ := ob hf
    obtain ⟨σ2, v3, eσ2, hf⟩ := cb_el hf
    refine g_callV_v dX12_writesDecimals_10 (wX12_writes _ eσ2) (okX12_writes _ (by decide) (by decide)) (ckK_el h4) hc16 t_2567 t_2569 s_X12_writes rfl (Nat.le_trans (cat_le _) (Nat.le_of_ble_eq_true rfl)) rfl ?_
    refine g_iconst (v := 0) dX12_writesDecimals_13 (by decide) ?_
    refine g_istore_n (i := 3) (L' := [(3, .int 0), (0, rv x0), (1, .int x1), (2, .int x2)]) dX12_writesDecimals_14 rfl (Nat.le_of_ble_eq_true rfl) rfl ?_
    refine g_sub (L' := [(0, rv x0), (1, .int x1), (2, .int x2), (3, .int 0)]) [1, 2, 3, 0] rfl ?_
    exact bX12_writesDecimals_15 hX1 hX2 FU _ _ _ _ _ hf
  · rw [if_pos c1] at hf
    exact g_vret dX12_writesDecimals_6 rfl hX2 hX1 hf

theorem okX12_writesDecimals (M : Mt) (h1 : 5 + 1 ≤ M.2.2.2.2.1) (h2 : 8 + (4 + 11) + 188 ≤ M.2.2.2.2.2.1) : CallOk M MtX12_writesDecimals yX12_writesDecimals 2 := ⟨t_2594, h1, h2, ⟨by decide, by decide⟩, by decide +kernel, t_16⟩
abbrev MtX12_write : Mt := (cX12_write, 5, "ExactlySaidModel", (Option.some Jvm.ClassFile.FieldType.int), 6, 211, false)
set_option maxRecDepth 100000 in
set_option maxHeartbeats 4000000 in
theorem bX12_write_162 {X : Xt} {σf : St} {r : Int32} (hX1 : X.2.2.1 = σf) (hX2 : X.2.2.2 = .inl (some (.int r))) : ∀ (n : Nat) (σ : St) (x0 : Nat) (x4 : Int32), fX12_write_162 n σ x0 x4 = some (σf, r) → G MtX12_write X σ 162 [(0, rv x0), (4, .int x4)] [] := by
  intro n
  induction n with
  | zero => intro σ x0 x4 hf; cases hf
  | succ n ih =>
    intro σ x0 x4 hf
    rw [fX12_write_162] at hf
    refine g_iload (j := 1) dX12_write_162 rfl ?_
    refine g_aload_n (j := 0) dX12_write_164 rfl rfl ?_
    obtain ⟨v1, ev1, hf⟩ := ob hf
    refine g_getI dX12_write_165 ev1 t_2044 hin16 hc16 (by decide) rfl ?_
    refine g_icmp_ge (tgt := 191) dX12_write_168 (by decide) (fun c2 => ?_) (fun c2 => ?_)
    · rw [if_pos c2] at hf
      refine g_aload_n (j := 0) dX12_write_191 rfl rfl ?_
      obtain ⟨v3, ev3, hf⟩ := ob hf
      refine g_getI dX12_write_192 ev3 t_2045 hin16 hc16 (by decide) rfl ?_
      exact g_iret dX12_write_195 rfl rfl hX2 hX1 hf
    · rw [if_neg c2] at hf
      refine g_aload_n (j := 0) dX12_write_171 rfl rfl ?_
      obtain ⟨v4, ev4, hf⟩ := ob hf
      refine g_getF dX12_write_172 ev4 t_2043 hin16 hc16 (by decide) rfl ?_
      refine g_iload (j := 1) dX12_write_175 rfl ?_
      refine g_aload_n (j := 0) dX12_write_177 rfl rfl ?_
      obtain ⟨v5, ev5, hf⟩ := ob hf
      refine g_getF dX12_write_178 ev5 t_2042 hin16 hc16 (by decide) rfl ?_
      refine g_iload (j := 1) dX12_write_181 rfl ?_
      obtain ⟨v6, ev6, hf⟩ := ob hf
      refine g_iald dX12_write_183 ev6 ?_
      obtain ⟨σ7, eσ7, hf⟩ := ob hf
      refine g_iast dX12_write_184 eσ7 ?_
      obtain ⟨v8, ev8, hf⟩ := nm_el hf
      refine g_iinc (L' := [(4, .int v8), (0, rv x0)]) (j := 1) (v := v8) dX12_write_185 rfl (by rw [ev8]; rfl) (Nat.le_of_ble_eq_true rfl) rfl ?_
      refine g_goto (tgt := 162) dX12_write_188 (by decide) ?_
      refine g_sub (L' := [(0, rv x0), (4, .int v8)]) [1, 0] rfl ?_
      exact ih _ _ _ hf

set_option maxRecDepth 100000 in
set_option maxHeartbeats 4000000 in
theorem bX12_write_151 {X : Xt} {σf : St} {r : Int32} (hX1 : X.2.2.1 = σf) (hX2 : X.2.2.2 = .inl (some (.int r))) {σ : St} {x0 : Nat} (hf : fX12_write_151 σ x0 = some (σf, r)) : G MtX12_write X σ 151 [(0, rv x0)] [] := by
  unfold fX12_write_151 at hf
  refine g_aload_n (j := 0) dX12_write_151 rfl rfl ?_
  refine g_aload_n (j := 0) dX12_write_152 rfl rfl ?_
  obtain ⟨v1, ev1, hf⟩ := ob hf
  refine g_getI dX12_write_153 ev1 t_2044 hin16 hc16 (by decide) rfl ?_
  obtain ⟨σ2, eσ2, hf⟩ := ob hf
  refine g_putI dX12_write_156 eσ2 (Or.inl t_2045) hin16 hc16 (by decide) hty16 hnm16 (Or.inl rfl) rfl rfl rfl ?_
  refine g_iconst (v := 0) dX12_write_159 (by decide) ?_
  refine g_istore (i := 4) (L' := [(4, .int 0), (0, rv x0)]) dX12_write_160 (Nat.le_of_ble_eq_true rfl) rfl ?_
  refine g_sub (L' := [(0, rv x0), (4, .int 0)]) [1, 0] rfl ?_
  exact bX12_write_162 hX1 hX2 FU _ _ _ hf

set_option maxRecDepth 100000 in
set_option maxHeartbeats 4000000 in
theorem bX12_write_65 {X : Xt} {σf : St} {r : Int32} (hX1 : X.2.2.1 = σf) (hX2 : X.2.2.2 = .inl (some (.int r))) {σ : St} {x0 : Nat} {x1 : Int32} {x2 : Int32} {x3 : Int32} (hf : fX12_write_65 σ x0 x1 x2 x3 = some (σf, r)) : G MtX12_write X σ 65 [(0, rv x0), (1, .int x1), (2, .int x2), (3, .int x3)] [] := by
  unfold fX12_write_65 at hf
  refine g_aload_n (j := 0) dX12_write_65 rfl rfl ?_
  refine g_iconst (v := 0) dX12_write_66 (by decide) ?_
  refine g_aload_n (j := 0) dX12_write_67 rfl rfl ?_
  obtain ⟨v1, ev1, hf⟩ := ob hf
  refine g_getI dX12_write_68 ev1 t_2024 hin16 hc16 (by decide) rfl ?_
  refine g_iconst (v := 0) dX12_write_71 (by decide) ?_
  obtain ⟨_, h4, hf⟩ := ob hf
  obtain ⟨σ2, v3, eσ2, hf⟩ := cb_el hf
  refine g_callV_v dX12_write_72 (wX12_loads _ eσ2) (okX12_loads _ (by decide) (by decide)) (ckK_el h4) hc16 t_2439 t_2441 s_X12_loads rfl (Nat.le_trans (cat_le _) (Nat.le_of_ble_eq_true rfl)) rfl ?_
  refine g_aload_n (j := 0) dX12_write_75 rfl rfl ?_
  refine g_iconst (v := 1) dX12_write_76 (by decide) ?_
  refine g_aload_n (j := 0) dX12_write_77 rfl rfl ?_
  obtain ⟨v5, ev5, hf⟩ := ob hf
  refine g_getI dX12_write_78 ev5 t_2024 hin16 hc16 (by decide) rfl ?_
  refine g_iconst (v := 1) dX12_write_81 (by decide) ?_
  obtain ⟨_, h8, hf⟩ := ob hf
  obtain ⟨σ6, v7, eσ6, hf⟩ := cb_el hf
  refine g_callV_v dX12_write_82 (wX12_loads _ eσ6) (okX12_loads _ (by decide) (by decide)) (ckK_el h8) hc16 t_2439 t_2441 s_X12_loads rfl (Nat.le_trans (cat_le _) (Nat.le_of_ble_eq_true rfl)) rfl ?_
  refine g_iload_n (j := 1) dX12_write_85 rfl rfl ?_
  refine g_if_eq (tgt := 124) dX12_write_86 (by decide) (fun c9 => ?_) (fun c9 => ?_)
  · rw [if_pos c9] at hf
    refine g_aload_n (j := 0) dX12_write_124 rfl rfl ?_
    refine g_iconst (v := 0) dX12_write_125 (by decide) ?_
    obtain ⟨_, h12, hf⟩ := ob hf
    obtain ⟨σ10, v11, eσ10, hf⟩ := cb_el hf
    refine g_callV_v dX12_write_126 (wX12_writesNumber _ eσ10) (okX12_writesNumber _ (by decide) (by decide)) (ckK_el h12) hc16 t_2563 t_2565 s_X12_writesNumber rfl (Nat.le_trans (cat_le _) (Nat.le_of_ble_eq_true rfl)) rfl ?_
    refine g_aload_n (j := 0) dX12_write_129 rfl rfl ?_
    refine g_aload_n (j := 0) dX12_write_130 rfl rfl ?_
    obtain ⟨v13, ev13, hf⟩ := ob hf
    refine g_getI dX12_write_131 ev13 t_2024 hin16 hc16 (by decide) rfl ?_
    obtain ⟨_, h16, hf⟩ := ob hf
    obtain ⟨σ14, v15, eσ14, hf⟩ := cb_el hf
    refine g_callV_i dX12_write_134 (wX12_isWhole _ eσ14) (okX12_isWhole _ (by decide) (by decide)) (ckK_el h16) hc16 t_2419 t_2421 s_X12_isWhole rfl (Nat.le_trans (cat_le _) (Nat.le_of_ble_eq_true rfl)) rfl ?_
    refine g_if_ne (tgt := 151) dX12_write_137 (by decide) (fun c17 => ?_) (fun c17 => ?_)
    · rw [if_neg c17] at hf
      refine g_sub (L' := [(0, rv x0)]) [0] rfl ?_
      exact bX12_write_151 hX1 hX2 hf
    · rw [if_pos c17] at hf
      refine g_aload_n (j := 0) dX12_write_140 rfl rfl ?_
      refine g_bipush (v := 47) dX12_write_141 (by decide) ?_
      obtain ⟨_, h20, hf⟩ := ob hf
      obtain ⟨σ18, v19, eσ18, hf⟩ := cb_el hf
      refine g_callV_v dX12_write_143 (wX12_writes _ eσ18) (okX12_writes _ (by decide) (by decide)) (ckK_el h20) hc16 t_2567 t_2569 s_X12_writes rfl (Nat.le_trans (cat_le _) (Nat.le_of_ble_eq_true rfl)) rfl ?_
      refine g_aload_n (j := 0) dX12_write_146 rfl rfl ?_
      refine g_iconst (v := 1) dX12_write_147 (by decide) ?_
      obtain ⟨_, h23, hf⟩ := ob hf
      obtain ⟨σ21, v22, eσ21, hf⟩ := cb_el hf
      refine g_callV_v dX12_write_148 (wX12_writesNumber _ eσ21) (okX12_writesNumber _ (by decide) (by decide)) (ckK_el h23) hc16 t_2563 t_2565 s_X12_writesNumber rfl (Nat.le_trans (cat_le _) (Nat.le_of_ble_eq_true rfl)) rfl ?_
      refine g_sub (L' := [(0, rv x0)]) [0] rfl ?_
      exact bX12_write_151 hX1 hX2 hf
  · rw [if_neg c9] at hf
    refine g_aload_n (j := 0) dX12_write_89 rfl rfl ?_
    refine g_iconst (v := 0) dX12_write_90 (by decide) ?_
    refine g_iconst (v := 1) dX12_write_91 (by decide) ?_
    obtain ⟨_, h26, hf⟩ := ob hf
    obtain ⟨σ24, v25, eσ24, hf⟩ := cb_el hf
    refine g_callV_v dX12_write_92 (wX12_divides _ eσ24) (okX12_divides _ (by decide) (by decide)) (ckK_el h26) hc16 t_1931 t_1933 s_X12_divides rfl (Nat.le_trans (cat_le _) (Nat.le_of_ble_eq_true rfl)) rfl ?_
    refine g_aload_n (j := 0) dX12_write_95 rfl rfl ?_
    refine g_bipush (v := 13) dX12_write_96 (by decide) ?_
    refine g_bipush (v := 10) dX12_write_98 (by decide) ?_
    obtain ⟨_, h29, hf⟩ := ob hf
    obtain ⟨σ27, v28, eσ27, hf⟩ := cb_el hf
    refine g_callV_v dX12_write_100 (wX12_copies _ eσ27) (okX12_copies _ (by decide) (by decide)) (ckK_el h29) hc16 t_1927 t_1929 s_X12_copies rfl (Nat.le_trans (cat_le _) (Nat.le_of_ble_eq_true rfl)) rfl ?_
    refine g_aload_n (j := 0) dX12_write_103 rfl rfl ?_
    refine g_iconst (v := 4) dX12_write_104 (by decide) ?_
    refine g_bipush (v := 9) dX12_write_105 (by decide) ?_
    obtain ⟨_, h32, hf⟩ := ob hf
    obtain ⟨σ30, v31, eσ30, hf⟩ := cb_el hf
    refine g_callV_v dX12_write_107 (wX12_copies _ eσ30) (okX12_copies _ (by decide) (by decide)) (ckK_el h32) hc16 t_1927 t_1929 s_X12_copies rfl (Nat.le_trans (cat_le _) (Nat.le_of_ble_eq_true rfl)) rfl ?_
    refine g_aload_n (j := 0) dX12_write_110 rfl rfl ?_
    refine g_iconst (v := 4) dX12_write_111 (by decide) ?_
    obtain ⟨_, h35, hf⟩ := ob hf
    obtain ⟨σ33, v34, eσ33, hf⟩ := cb_el hf
    refine g_callV_v dX12_write_112 (wX12_writesNumber _ eσ33) (okX12_writesNumber _ (by decide) (by decide)) (ckK_el h35) hc16 t_2563 t_2565 s_X12_writesNumber rfl (Nat.le_trans (cat_le _) (Nat.le_of_ble_eq_true rfl)) rfl ?_
    refine g_aload_n (j := 0) dX12_write_115 rfl rfl ?_
    refine g_iload_n (j := 2) dX12_write_116 rfl rfl ?_
    refine g_iload_n (j := 3) dX12_write_117 rfl rfl ?_
    obtain ⟨_, h38, hf⟩ := ob hf
    obtain ⟨σ36, v37, eσ36, hf⟩ := cb_el hf
    refine g_callV_v dX12_write_118 (wX12_writesDecimals _ eσ36) (okX12_writesDecimals _ (by decide) (by decide)) (ckK_el h38) hc16 t_2591 t_2593 s_X12_writesDecimals rfl (Nat.le_trans (cat_le _) (Nat.le_of_ble_eq_true rfl)) rfl ?_
    refine g_goto (tgt := 151) dX12_write_121 (by decide) ?_
    refine g_sub (L' := [(0, rv x0)]) [0] rfl ?_
    exact bX12_write_151 hX1 hX2 hf

set_option maxRecDepth 100000 in
set_option maxHeartbeats 4000000 in
theorem bX12_write_42 {X : Xt} {σf : St} {r : Int32} (hX1 : X.2.2.1 = σf) (hX2 : X.2.2.2 = .inl (some (.int r))) {σ : St} {x0 : Nat} {x1 : Int32} {x2 : Int32} {x3 : Int32} (hf : fX12_write_42 σ x0 x1 x2 x3 = some (σf, r)) : G MtX12_write X σ 42 [(0, rv x0), (1, .int x1), (2, .int x2), (3, .int x3)] [] := by
  unfold fX12_write_42 at hf
  refine g_aload_n (j := 0) dX12_write_42 rfl rfl ?_
  refine g_iconst (v := 0) dX12_write_43 (by decide) ?_
  obtain ⟨σ1, eσ1, hf⟩ := ob hf
  refine g_putI dX12_write_44 eσ1 (Or.inl t_2044) hin16 hc16 (by decide) hty16 hnm16 (Or.inl rfl) rfl rfl rfl ?_
  refine g_aload_n (j := 0) dX12_write_47 rfl rfl ?_
  obtain ⟨v2, ev2, hf⟩ := ob hf
  refine g_getF dX12_write_48 ev2 t_1970 hin16 hc16 (by decide) rfl ?_
  refine g_aload_n (j := 0) dX12_write_51 rfl rfl ?_
  obtain ⟨v3, ev3, hf⟩ := ob hf
  refine g_getI dX12_write_52 ev3 t_2024 hin16 hc16 (by decide) rfl ?_
  obtain ⟨v4, ev4, hf⟩ := ob hf
  refine g_iald dX12_write_55 ev4 ?_
  refine g_if_ge (tgt := 65) dX12_write_56 (by decide) (fun c5 => ?_) (fun c5 => ?_)
  · rw [if_pos c5] at hf
    exact bX12_write_65 hX1 hX2 hf
  · rw [if_neg c5] at hf
    refine g_aload_n (j := 0) dX12_write_59 rfl rfl ?_
    refine g_bipush (v := 45) dX12_write_60 (by decide) ?_
    obtain ⟨_, h8, hf⟩ := ob hf
    obtain ⟨σ6, v7, eσ6, hf⟩ := cb_el hf
    refine g_callV_v dX12_write_62 (wX12_writes _ eσ6) (okX12_writes _ (by decide) (by decide)) (ckK_el h8) hc16 t_2567 t_2569 s_X12_writes rfl (Nat.le_trans (cat_le _) (Nat.le_of_ble_eq_true rfl)) rfl ?_
    exact bX12_write_65 hX1 hX2 hf

set_option maxRecDepth 100000 in
set_option maxHeartbeats 4000000 in
theorem bX12_write_22 {X : Xt} {σf : St} {r : Int32} (hX1 : X.2.2.1 = σf) (hX2 : X.2.2.2 = .inl (some (.int r))) {σ : St} {x0 : Nat} {x1 : Int32} {x2 : Int32} {y0 : Int32} (hf : fX12_write_22 σ x0 x1 x2 y0 = some (σf, r)) : G MtX12_write X σ 22 [(0, rv x0), (1, .int x1), (2, .int x2)] [.int y0] := by
  unfold fX12_write_22 at hf
  refine g_istore_n (i := 3) (L' := [(3, .int y0), (0, rv x0), (1, .int x1), (2, .int x2)]) dX12_write_22 rfl (Nat.le_of_ble_eq_true rfl) rfl ?_
  refine g_iload_n (j := 2) dX12_write_23 rfl rfl ?_
  refine g_if_eq (tgt := 42) dX12_write_24 (by decide) (fun c1 => ?_) (fun c1 => ?_)
  · rw [if_pos c1] at hf
    refine g_sub (L' := [(0, rv x0), (1, .int x1), (2, .int x2), (3, .int y0)]) [1, 2, 3, 0] rfl ?_
    exact bX12_write_42 hX1 hX2 hf
  · rw [if_neg c1] at hf
    refine g_iload_n (j := 0) dX12_write_27 rfl rfl ?_
    refine g_iconst (v := (-1)) dX12_write_28 (by decide) ?_
    refine g_icmp_eq (tgt := 40) dX12_write_29 (by decide) (fun c2 => ?_) (fun c2 => ?_)
    · rw [if_pos c2] at hf
      refine g_iconst (v := (-1)) dX12_write_40 (by decide) ?_
      exact g_iret dX12_write_41 rfl rfl hX2 hX1 hf
    · rw [if_neg c2] at hf
      refine g_iload_n (j := 3) dX12_write_32 rfl rfl ?_
      refine g_iload_n (j := 0) dX12_write_33 rfl rfl ?_
      refine g_iadd dX12_write_34 ?_
      refine g_bipush (v := 100) dX12_write_35 (by decide) ?_
      refine g_icmp_le (tgt := 42) dX12_write_37 (by decide) (fun c3 => ?_) (fun c3 => ?_)
      · rw [if_pos c3] at hf
        refine g_sub (L' := [(0, rv x0), (1, .int x1), (2, .int x2), (3, .int y0)]) [1, 2, 3, 0] rfl ?_
        exact bX12_write_42 hX1 hX2 hf
      · rw [if_neg c3] at hf
        refine g_iconst (v := (-1)) dX12_write_40 (by decide) ?_
        exact g_iret dX12_write_41 rfl rfl hX2 hX1 hf

set_option maxRecDepth 100000 in
set_option maxHeartbeats 4000000 in
theorem wX12_write (l : Launch) {σ σf : St} {x0 : Nat} {x1 : Int32} {r : Int32} (hf : fX12_write σ x0 x1 = some (σf, r)) : Con MtX12_write yX12_write l σ [rv x0, .int x1] σf (some (.int r)) := by
  refine Con.of (by decide +kernel) rfl (fun h => absurd (show false = true from h) (by decide)) (by simp only [sl_n, sl_r, sl_i, sl_l]; exact Nat.le_of_ble_eq_true rfl) ?_
  rw [show lv_args 0 [rv x0, .int x1] = [(0, rv x0), (1, .int x1)] by simp only [la_n, la_r, la_i, la_l] <;> rfl]
  have hX1 : ((l, σ, σf, .inl (some (.int r))) : Xt).2.2.1 = σf := rfl
  have hX2 : ((l, σ, σf, .inl (some (.int r))) : Xt).2.2.2 = .inl (some (.int r)) := rfl
  unfold fX12_write at hf
  refine g_aload_n (j := 0) dX12_write_0 rfl rfl ?_
  refine g_iconst (v := 0) dX12_write_1 (by decide) ?_
  obtain ⟨σ1, eσ1, hf⟩ := ob hf
  refine g_putI dX12_write_2 eσ1 (Or.inl t_1967) hin16 hc16 (by decide) hty16 hnm16 (Or.inl rfl) rfl rfl rfl ?_
  refine g_aload_n (j := 0) dX12_write_5 rfl rfl ?_
  obtain ⟨_, h4, hf⟩ := ob hf
  obtain ⟨σ2, v3, eσ2, hf⟩ := cb_el hf
  refine g_callV_i dX12_write_6 (wX12_aheadLength _ eσ2) (okX12_aheadLength _ (by decide) (by decide)) (ckK_el h4) hc16 t_2579 t_2581 s_X12_aheadLength rfl (Nat.le_trans (cat_le _) (Nat.le_of_ble_eq_true rfl)) rfl ?_
  refine g_istore_n (i := 2) (L' := [(2, .int v3), (0, rv x0), (1, .int x1)]) dX12_write_9 rfl (Nat.le_of_ble_eq_true rfl) rfl ?_
  refine g_iload_n (j := 2) dX12_write_10 rfl rfl ?_
  refine g_if_eq (tgt := 21) dX12_write_11 (by decide) (fun c5 => ?_) (fun c5 => ?_)
  · rw [if_pos c5] at hf
    refine g_iconst (v := 0) dX12_write_21 (by decide) ?_
    refine g_sub (L' := [(0, rv x0), (1, .int x1), (2, .int v3)]) [1, 2, 0] rfl ?_
    exact bX12_write_22 hX1 hX2 hf
  · rw [if_neg c5] at hf
    refine g_aload_n (j := 1) dX12_write_14 rfl rfl ?_
    obtain ⟨_, h8, hf⟩ := ob hf
    obtain ⟨σ6, v7, eσ6, hf⟩ := cb_el hf
    refine g_callV_i dX12_write_15 (wX12_repeats _ eσ6) (okX12_repeats _ (by decide) (by decide)) (ckK_el h8) hc16 t_2583 t_2585 s_X12_repeats rfl (Nat.le_trans (cat_le _) (Nat.le_of_ble_eq_true rfl)) rfl ?_
    refine g_goto (tgt := 22) dX12_write_18 (by decide) ?_
    refine g_sub (L' := [(0, rv x0), (1, .int x1), (2, .int v3)]) [1, 2, 0] rfl ?_
    exact bX12_write_22 hX1 hX2 hf

theorem okX12_write (M : Mt) (h1 : 6 + 1 ≤ M.2.2.2.2.1) (h2 : 8 + (5 + 11) + 211 ≤ M.2.2.2.2.2.1) : CallOk M MtX12_write yX12_write 1 := ⟨t_2578, h1, h2, ⟨by decide, by decide⟩, by decide +kernel, t_16⟩
abbrev MtX12_writtenAt : Mt := (cX12_writtenAt, 2, "ExactlySaidModel", (Option.some Jvm.ClassFile.FieldType.char), 2, 106, false)
set_option maxRecDepth 100000 in
set_option maxHeartbeats 4000000 in
theorem wX12_writtenAt (l : Launch) {σ σf : St} {x0 : Nat} {x1 : Int32} {r : Int32} (hf : fX12_writtenAt σ x0 x1 = some (σf, r)) : Con MtX12_writtenAt yX12_writtenAt l σ [rv x0, .int x1] σf (some (.int r)) := by
  refine Con.of (by decide +kernel) rfl (fun h => absurd (show false = true from h) (by decide)) (by simp only [sl_n, sl_r, sl_i, sl_l]; exact Nat.le_of_ble_eq_true rfl) ?_
  rw [show lv_args 0 [rv x0, .int x1] = [(0, rv x0), (1, .int x1)] by simp only [la_n, la_r, la_i, la_l] <;> rfl]
  have hX1 : ((l, σ, σf, .inl (some (.int r))) : Xt).2.2.1 = σf := rfl
  have hX2 : ((l, σ, σf, .inl (some (.int r))) : Xt).2.2.2 = .inl (some (.int r)) := rfl
  unfold fX12_writtenAt at hf
  refine g_aload_n (j := 0) dX12_writtenAt_0 rfl rfl ?_
  refine g_iconst (v := 0) dX12_writtenAt_1 (by decide) ?_
  obtain ⟨σ1, eσ1, hf⟩ := ob hf
  refine g_putI dX12_writtenAt_2 eσ1 (Or.inl t_1967) hin16 hc16 (by decide) hty16 hnm16 (Or.inl rfl) rfl rfl rfl ?_
  refine g_aload_n (j := 0) dX12_writtenAt_5 rfl rfl ?_
  refine g_iload_n (j := 1) dX12_writtenAt_6 rfl rfl ?_
  refine g_iconst (v := 0) dX12_writtenAt_7 (by decide) ?_
  refine g_aload_n (j := 0) dX12_writtenAt_8 rfl rfl ?_
  obtain ⟨v2, ev2, hf⟩ := ob hf
  refine g_getI dX12_writtenAt_9 ev2 t_2045 hin16 hc16 (by decide) rfl ?_
  refine g_iconst (v := 1) dX12_writtenAt_12 (by decide) ?_
  refine g_isub dX12_writtenAt_13 ?_
  obtain ⟨σ3, v4, eσ3, hf⟩ := cb_el hf
  refine g_callS_i dX12_writtenAt_14 (wX12_in _ eσ3) (okX12_in _ (by decide) (by decide)) t_2257 t_2258 rfl (Nat.le_trans (cat_le _) (Nat.le_of_ble_eq_true rfl)) rfl ?_
  refine g_iconst (v := 1) dX12_writtenAt_17 (by decide) ?_
  obtain ⟨_, h7, hf⟩ := ob hf
  obtain ⟨σ5, v6, eσ5, hf⟩ := cb_el hf
  refine g_callV_i dX12_writtenAt_18 (wX12_fails _ eσ5) (okX12_fails _ (by decide) (by decide)) (ckK_el h7) hc16 t_2225 t_2227 s_X12_fails rfl (Nat.le_trans (cat_le _) (Nat.le_of_ble_eq_true rfl)) rfl ?_
  refine g_if_eq (tgt := 29) dX12_writtenAt_21 (by decide) (fun c8 => ?_) (fun c8 => ?_)
  · rw [if_pos c8] at hf
    refine g_aload_n (j := 0) dX12_writtenAt_29 rfl rfl ?_
    obtain ⟨v9, ev9, hf⟩ := ob hf
    refine g_getF dX12_writtenAt_30 ev9 t_2043 hin16 hc16 (by decide) rfl ?_
    refine g_iload_n (j := 1) dX12_writtenAt_33 rfl rfl ?_
    obtain ⟨v10, ev10, hf⟩ := ob hf
    refine g_iald dX12_writtenAt_34 ev10 ?_
    refine g_i2c dX12_writtenAt_35 rfl ?_
    obtain ⟨_, h11, hf⟩ := ob hf
    exact g_iret dX12_writtenAt_36 rfl (ckC_el h11) hX2 hX1 hf
  · rw [if_neg c8] at hf
    refine g_bipush (v := 32) dX12_writtenAt_24 (by decide) ?_
    refine g_goto (tgt := 36) dX12_writtenAt_26 (by decide) ?_
    exact g_iret dX12_writtenAt_36 rfl (by decide) hX2 hX1 hf

theorem okX12_writtenAt (M : Mt) (h1 : 2 + 1 ≤ M.2.2.2.2.1) (h2 : 8 + (2 + 11) + 106 ≤ M.2.2.2.2.2.1) : CallOk M MtX12_writtenAt yX12_writtenAt 1 := ⟨t_2602, h1, h2, ⟨by decide, by decide⟩, by decide +kernel, t_16⟩
abbrev MtX12_noSlot : Mt := (cX12_noSlot, 2, "ExactlySaidModel", (Option.some Jvm.ClassFile.FieldType.boolean), 2, 106, false)
set_option maxRecDepth 100000 in
set_option maxHeartbeats 4000000 in
theorem wX12_noSlot (l : Launch) {σ σf : St} {x0 : Nat} {x1 : Int32} {r : Int32} (hf : fX12_noSlot σ x0 x1 = some (σf, r)) : Con MtX12_noSlot yX12_noSlot l σ [rv x0, .int x1] σf (some (.int r)) := by
  refine Con.of (by decide +kernel) rfl (fun h => absurd (show false = true from h) (by decide)) (by simp only [sl_n, sl_r, sl_i, sl_l]; exact Nat.le_of_ble_eq_true rfl) ?_
  rw [show lv_args 0 [rv x0, .int x1] = [(0, rv x0), (1, .int x1)] by simp only [la_n, la_r, la_i, la_l] <;> rfl]
  have hX1 : ((l, σ, σf, .inl (some (.int r))) : Xt).2.2.1 = σf := rfl
  have hX2 : ((l, σ, σf, .inl (some (.int r))) : Xt).2.2.2 = .inl (some (.int r)) := rfl
  unfold fX12_noSlot at hf
  refine g_aload_n (j := 0) dX12_noSlot_0 rfl rfl ?_
  refine g_iload_n (j := 1) dX12_noSlot_1 rfl rfl ?_
  refine g_iconst (v := 0) dX12_noSlot_2 (by decide) ?_
  refine g_bipush (v := 9) dX12_noSlot_3 (by decide) ?_
  obtain ⟨σ1, v2, eσ1, hf⟩ := cb_el hf
  refine g_callS_i dX12_noSlot_5 (wX12_in _ eσ1) (okX12_in _ (by decide) (by decide)) t_2257 t_2258 rfl (Nat.le_trans (cat_le _) (Nat.le_of_ble_eq_true rfl)) rfl ?_
  refine g_iconst (v := 1) dX12_noSlot_8 (by decide) ?_
  obtain ⟨_, h5, hf⟩ := ob hf
  obtain ⟨σ3, v4, eσ3, hf⟩ := cb_el hf
  refine g_callV_i dX12_noSlot_9 (wX12_fails _ eσ3) (okX12_fails _ (by decide) (by decide)) (ckK_el h5) hc16 t_2225 t_2227 s_X12_fails rfl (Nat.le_trans (cat_le _) (Nat.le_of_ble_eq_true rfl)) rfl ?_
  obtain ⟨_, h6, hf⟩ := ob hf
  exact g_iret dX12_noSlot_12 rfl (ckZ_el h6) hX2 hX1 hf

theorem okX12_noSlot (M : Mt) (h1 : 2 + 1 ≤ M.2.2.2.2.1) (h2 : 8 + (2 + 11) + 106 ≤ M.2.2.2.2.2.1) : CallOk M MtX12_noSlot yX12_noSlot 1 := ⟨t_2610, h1, h2, ⟨by decide, by decide⟩, by decide +kernel, t_16⟩
abbrev MtX12_keep : Mt := (cX12_keep, 3, "ExactlySaidModel", (Option.some Jvm.ClassFile.FieldType.int), 3, 127, false)
set_option maxRecDepth 100000 in
set_option maxHeartbeats 4000000 in
theorem wX12_keep (l : Launch) {σ σf : St} {x0 : Nat} {x1 : Int32} {r : Int32} (hf : fX12_keep σ x0 x1 = some (σf, r)) : Con MtX12_keep yX12_keep l σ [rv x0, .int x1] σf (some (.int r)) := by
  refine Con.of (by decide +kernel) rfl (fun h => absurd (show false = true from h) (by decide)) (by simp only [sl_n, sl_r, sl_i, sl_l]; exact Nat.le_of_ble_eq_true rfl) ?_
  rw [show lv_args 0 [rv x0, .int x1] = [(0, rv x0), (1, .int x1)] by simp only [la_n, la_r, la_i, la_l] <;> rfl]
  have hX1 : ((l, σ, σf, .inl (some (.int r))) : Xt).2.2.1 = σf := rfl
  have hX2 : ((l, σ, σf, .inl (some (.int r))) : Xt).2.2.2 = .inl (some (.int r)) := rfl
  unfold fX12_keep at hf
  refine g_aload_n (j := 0) dX12_keep_0 rfl rfl ?_
  refine g_iconst (v := 0) dX12_keep_1 (by decide) ?_
  obtain ⟨σ1, eσ1, hf⟩ := ob hf
  refine g_putI dX12_keep_2 eσ1 (Or.inl t_1967) hin16 hc16 (by decide) hty16 hnm16 (Or.inl rfl) rfl rfl rfl ?_
  refine g_aload_n (j := 0) dX12_keep_5 rfl rfl ?_
  refine g_iload_n (j := 1) dX12_keep_6 rfl rfl ?_
  obtain ⟨_, h4, hf⟩ := ob hf
  obtain ⟨σ2, v3, eσ2, hf⟩ := cb_el hf
  refine g_callV_i dX12_keep_7 (wX12_noSlot _ eσ2) (okX12_noSlot _ (by decide) (by decide)) (ckK_el h4) hc16 t_2607 t_2609 s_X12_noSlot rfl (Nat.le_trans (cat_le _) (Nat.le_of_ble_eq_true rfl)) rfl ?_
  refine g_if_eq (tgt := 15) dX12_keep_10 (by decide) (fun c5 => ?_) (fun c5 => ?_)
  · rw [if_pos c5] at hf
    refine g_aload_n (j := 0) dX12_keep_15 rfl rfl ?_
    obtain ⟨v6, ev6, hf⟩ := ob hf
    refine g_getF dX12_keep_16 ev6 t_1970 hin16 hc16 (by decide) rfl ?_
    refine g_aload_n (j := 0) dX12_keep_19 rfl rfl ?_
    obtain ⟨v7, ev7, hf⟩ := ob hf
    refine g_getF dX12_keep_20 ev7 t_2041 hin16 hc16 (by decide) rfl ?_
    refine g_iload_n (j := 1) dX12_keep_23 rfl rfl ?_
    obtain ⟨v8, ev8, hf⟩ := ob hf
    refine g_iald dX12_keep_24 ev8 ?_
    obtain ⟨v9, ev9, hf⟩ := ob hf
    refine g_iald dX12_keep_25 ev9 ?_
    refine g_istore_n (i := 2) (L' := [(2, .int v9), (0, rv x0), (1, .int x1)]) dX12_keep_26 rfl (Nat.le_of_ble_eq_true rfl) rfl ?_
    refine g_aload_n (j := 1) dX12_keep_27 rfl rfl ?_
    obtain ⟨v10, ev10, hf⟩ := ob hf
    refine g_getF dX12_keep_28 ev10 t_2041 hin16 hc16 (by decide) rfl ?_
    refine g_iload_n (j := 2) dX12_keep_31 rfl rfl ?_
    refine g_aload_n (j := 1) dX12_keep_32 rfl rfl ?_
    obtain ⟨v11, ev11, hf⟩ := ob hf
    refine g_getI dX12_keep_33 ev11 t_2024 hin16 hc16 (by decide) rfl ?_
    obtain ⟨σ12, eσ12, hf⟩ := ob hf
    refine g_iast dX12_keep_36 eσ12 ?_
    refine g_iload_n (j := 0) dX12_keep_37 rfl rfl ?_
    exact g_iret dX12_keep_38 rfl rfl hX2 hX1 hf
  · rw [if_neg c5] at hf
    refine g_iconst (v := 0) dX12_keep_13 (by decide) ?_
    exact g_iret dX12_keep_14 rfl rfl hX2 hX1 hf

theorem okX12_keep (M : Mt) (h1 : 3 + 1 ≤ M.2.2.2.2.1) (h2 : 8 + (3 + 11) + 127 ≤ M.2.2.2.2.2.1) : CallOk M MtX12_keep yX12_keep 1 := ⟨t_2606, h1, h2, ⟨by decide, by decide⟩, by decide +kernel, t_16⟩
abbrev MtX12_becomes : Mt := (cX12_becomes, 2, "ExactlySaidModel", (Option.some Jvm.ClassFile.FieldType.int), 3, 129, false)
set_option maxRecDepth 100000 in
set_option maxHeartbeats 4000000 in
theorem wX12_becomes (l : Launch) {σ σf : St} {x0 : Nat} {x1 : Int32} {r : Int32} (hf : fX12_becomes σ x0 x1 = some (σf, r)) : Con MtX12_becomes yX12_becomes l σ [rv x0, .int x1] σf (some (.int r)) := by
  refine Con.of (by decide +kernel) rfl (fun h => absurd (show false = true from h) (by decide)) (by simp only [sl_n, sl_r, sl_i, sl_l]; exact Nat.le_of_ble_eq_true rfl) ?_
  rw [show lv_args 0 [rv x0, .int x1] = [(0, rv x0), (1, .int x1)] by simp only [la_n, la_r, la_i, la_l] <;> rfl]
  have hX1 : ((l, σ, σf, .inl (some (.int r))) : Xt).2.2.1 = σf := rfl
  have hX2 : ((l, σ, σf, .inl (some (.int r))) : Xt).2.2.2 = .inl (some (.int r)) := rfl
  unfold fX12_becomes at hf
  refine g_aload_n (j := 0) dX12_becomes_0 rfl rfl ?_
  refine g_aload_n (j := 0) dX12_becomes_1 rfl rfl ?_
  refine g_iload_n (j := 1) dX12_becomes_2 rfl rfl ?_
  obtain ⟨_, h3, hf⟩ := ob hf
  obtain ⟨σ1, v2, eσ1, hf⟩ := cb_el hf
  refine g_callV_i dX12_becomes_3 (wX12_keeps _ eσ1) (okX12_keeps _ (by decide) (by decide)) (ckK_el h3) hc16 t_2479 t_2481 s_X12_keeps rfl (Nat.le_trans (cat_le _) (Nat.le_of_ble_eq_true rfl)) rfl ?_
  obtain ⟨σ4, eσ4, hf⟩ := ob hf
  refine g_putI dX12_becomes_6 eσ4 (Or.inl t_2024) hin16 hc16 (by decide) hty16 hnm16 (Or.inl rfl) rfl rfl rfl ?_
  refine g_aload_n (j := 0) dX12_becomes_9 rfl rfl ?_
  obtain ⟨v5, ev5, hf⟩ := ob hf
  refine g_getF dX12_becomes_10 ev5 t_1970 hin16 hc16 (by decide) rfl ?_
  refine g_aload_n (j := 0) dX12_becomes_13 rfl rfl ?_
  obtain ⟨v6, ev6, hf⟩ := ob hf
  refine g_getI dX12_becomes_14 ev6 t_2024 hin16 hc16 (by decide) rfl ?_
  obtain ⟨v7, ev7, hf⟩ := ob hf
  refine g_iald dX12_becomes_17 ev7 ?_
  exact g_iret dX12_becomes_18 rfl rfl hX2 hX1 hf

theorem okX12_becomes (M : Mt) (h1 : 3 + 1 ≤ M.2.2.2.2.1) (h2 : 8 + (2 + 11) + 129 ≤ M.2.2.2.2.2.1) : CallOk M MtX12_becomes yX12_becomes 1 := ⟨t_2618, h1, h2, ⟨by decide, by decide⟩, by decide +kernel, t_16⟩
abbrev MtX12_take : Mt := (cX12_take, 2, "ExactlySaidModel", (Option.some Jvm.ClassFile.FieldType.int), 4, 150, false)
set_option maxRecDepth 100000 in
set_option maxHeartbeats 4000000 in
theorem wX12_take (l : Launch) {σ σf : St} {x0 : Nat} {x1 : Int32} {r : Int32} (hf : fX12_take σ x0 x1 = some (σf, r)) : Con MtX12_take yX12_take l σ [rv x0, .int x1] σf (some (.int r)) := by
  refine Con.of (by decide +kernel) rfl (fun h => absurd (show false = true from h) (by decide)) (by simp only [sl_n, sl_r, sl_i, sl_l]; exact Nat.le_of_ble_eq_true rfl) ?_
  rw [show lv_args 0 [rv x0, .int x1] = [(0, rv x0), (1, .int x1)] by simp only [la_n, la_r, la_i, la_l] <;> rfl]
  have hX1 : ((l, σ, σf, .inl (some (.int r))) : Xt).2.2.1 = σf := rfl
  have hX2 : ((l, σ, σf, .inl (some (.int r))) : Xt).2.2.2 = .inl (some (.int r)) := rfl
  unfold fX12_take at hf
  refine g_aload_n (j := 0) dX12_take_0 rfl rfl ?_
  refine g_iconst (v := 0) dX12_take_1 (by decide) ?_
  obtain ⟨σ1, eσ1, hf⟩ := ob hf
  refine g_putI dX12_take_2 eσ1 (Or.inl t_1967) hin16 hc16 (by decide) hty16 hnm16 (Or.inl rfl) rfl rfl rfl ?_
  refine g_aload_n (j := 0) dX12_take_5 rfl rfl ?_
  refine g_iload_n (j := 1) dX12_take_6 rfl rfl ?_
  obtain ⟨_, h4, hf⟩ := ob hf
  obtain ⟨σ2, v3, eσ2, hf⟩ := cb_el hf
  refine g_callV_i dX12_take_7 (wX12_noSlot _ eσ2) (okX12_noSlot _ (by decide) (by decide)) (ckK_el h4) hc16 t_2607 t_2609 s_X12_noSlot rfl (Nat.le_trans (cat_le _) (Nat.le_of_ble_eq_true rfl)) rfl ?_
  refine g_if_eq (tgt := 17) dX12_take_10 (by decide) (fun c5 => ?_) (fun c5 => ?_)
  · rw [if_pos c5] at hf
    refine g_aload_n (j := 0) dX12_take_17 rfl rfl ?_
    refine g_aload_n (j := 0) dX12_take_18 rfl rfl ?_
    obtain ⟨v6, ev6, hf⟩ := ob hf
    refine g_getF dX12_take_19 ev6 t_2041 hin16 hc16 (by decide) rfl ?_
    refine g_iload_n (j := 1) dX12_take_22 rfl rfl ?_
    obtain ⟨v7, ev7, hf⟩ := ob hf
    refine g_iald dX12_take_23 ev7 ?_
    obtain ⟨_, h10, hf⟩ := ob hf
    obtain ⟨σ8, v9, eσ8, hf⟩ := cb_el hf
    refine g_callV_i dX12_take_24 (wX12_becomes _ eσ8) (okX12_becomes _ (by decide) (by decide)) (ckK_el h10) hc16 t_2615 t_2617 s_X12_becomes rfl (Nat.le_trans (cat_le _) (Nat.le_of_ble_eq_true rfl)) rfl ?_
    exact g_iret dX12_take_27 rfl rfl hX2 hX1 hf
  · rw [if_neg c5] at hf
    refine g_iconst (v := 0) dX12_take_13 (by decide) ?_
    refine g_goto (tgt := 27) dX12_take_14 (by decide) ?_
    exact g_iret dX12_take_27 rfl rfl hX2 hX1 hf

theorem okX12_take (M : Mt) (h1 : 4 + 1 ≤ M.2.2.2.2.1) (h2 : 8 + (2 + 11) + 150 ≤ M.2.2.2.2.2.1) : CallOk M MtX12_take yX12_take 1 := ⟨t_2614, h1, h2, ⟨by decide, by decide⟩, by decide +kernel, t_16⟩
abbrev MtX12_compare : Mt := (cX12_compare, 3, "ExactlySaidModel", (Option.some Jvm.ClassFile.FieldType.int), 5, 174, false)
set_option maxRecDepth 100000 in
set_option maxHeartbeats 4000000 in
theorem bX12_compare_21 {X : Xt} {σf : St} {r : Int32} (hX1 : X.2.2.1 = σf) (hX2 : X.2.2.2 = .inl (some (.int r))) {σ : St} (hf : fX12_compare_21 σ  = some (σf, r)) : G MtX12_compare X σ 21 [] [] := by
  unfold fX12_compare_21 at hf
  refine g_iconst (v := 0) dX12_compare_21 (by decide) ?_
  refine g_goto (tgt := 41) dX12_compare_22 (by decide) ?_
  exact g_iret dX12_compare_41 rfl rfl hX2 hX1 hf

set_option maxRecDepth 100000 in
set_option maxHeartbeats 4000000 in
theorem wX12_compare (l : Launch) {σ σf : St} {x0 : Nat} {x1 : Int32} {x2 : Int32} {r : Int32} (hf : fX12_compare σ x0 x1 x2 = some (σf, r)) : Con MtX12_compare yX12_compare l σ [rv x0, .int x1, .int x2] σf (some (.int r)) := by
  refine Con.of (by decide +kernel) rfl (fun h => absurd (show false = true from h) (by decide)) (by simp only [sl_n, sl_r, sl_i, sl_l]; exact Nat.le_of_ble_eq_true rfl) ?_
  rw [show lv_args 0 [rv x0, .int x1, .int x2] = [(0, rv x0), (1, .int x1), (2, .int x2)] by simp only [la_n, la_r, la_i, la_l] <;> rfl]
  have hX1 : ((l, σ, σf, .inl (some (.int r))) : Xt).2.2.1 = σf := rfl
  have hX2 : ((l, σ, σf, .inl (some (.int r))) : Xt).2.2.2 = .inl (some (.int r)) := rfl
  unfold fX12_compare at hf
  refine g_aload_n (j := 0) dX12_compare_0 rfl rfl ?_
  refine g_iconst (v := 0) dX12_compare_1 (by decide) ?_
  obtain ⟨σ1, eσ1, hf⟩ := ob hf
  refine g_putI dX12_compare_2 eσ1 (Or.inl t_1967) hin16 hc16 (by decide) hty16 hnm16 (Or.inl rfl) rfl rfl rfl ?_
  refine g_aload_n (j := 0) dX12_compare_5 rfl rfl ?_
  refine g_iload_n (j := 1) dX12_compare_6 rfl rfl ?_
  obtain ⟨_, h4, hf⟩ := ob hf
  obtain ⟨σ2, v3, eσ2, hf⟩ := cb_el hf
  refine g_callV_i dX12_compare_7 (wX12_noSlot _ eσ2) (okX12_noSlot _ (by decide) (by decide)) (ckK_el h4) hc16 t_2607 t_2609 s_X12_noSlot rfl (Nat.le_trans (cat_le _) (Nat.le_of_ble_eq_true rfl)) rfl ?_
  refine g_if_ne (tgt := 21) dX12_compare_10 (by decide) (fun c5 => ?_) (fun c5 => ?_)
  · rw [if_neg c5] at hf
    refine g_sub (L' := []) [] rfl ?_
    exact bX12_compare_21 hX1 hX2 hf
  · rw [if_pos c5] at hf
    refine g_aload_n (j := 0) dX12_compare_13 rfl rfl ?_
    refine g_iload_n (j := 2) dX12_compare_14 rfl rfl ?_
    obtain ⟨_, h8, hf⟩ := ob hf
    obtain ⟨σ6, v7, eσ6, hf⟩ := cb_el hf
    refine g_callV_i dX12_compare_15 (wX12_noSlot _ eσ6) (okX12_noSlot _ (by decide) (by decide)) (ckK_el h8) hc16 t_2607 t_2609 s_X12_noSlot rfl (Nat.le_trans (cat_le _) (Nat.le_of_ble_eq_true rfl)) rfl ?_
    refine g_if_eq (tgt := 25) dX12_compare_18 (by decide) (fun c9 => ?_) (fun c9 => ?_)
    · rw [if_pos c9] at hf
      refine g_aload_n (j := 0) dX12_compare_25 rfl rfl ?_
      refine g_aload_n (j := 0) dX12_compare_26 rfl rfl ?_
      obtain ⟨v10, ev10, hf⟩ := ob hf
      refine g_getF dX12_compare_27 ev10 t_2041 hin16 hc16 (by decide) rfl ?_
      refine g_iload_n (j := 1) dX12_compare_30 rfl rfl ?_
      obtain ⟨v11, ev11, hf⟩ := ob hf
      refine g_iald dX12_compare_31 ev11 ?_
      refine g_aload_n (j := 0) dX12_compare_32 rfl rfl ?_
      obtain ⟨v12, ev12, hf⟩ := ob hf
      refine g_getF dX12_compare_33 ev12 t_2041 hin16 hc16 (by decide) rfl ?_
      refine g_iload_n (j := 2) dX12_compare_36 rfl rfl ?_
      obtain ⟨v13, ev13, hf⟩ := ob hf
      refine g_iald dX12_compare_37 ev13 ?_
      obtain ⟨_, h16, hf⟩ := ob hf
      obtain ⟨σ14, v15, eσ14, hf⟩ := cb_el hf
      refine g_callV_i dX12_compare_38 (wX12_order _ eσ14) (okX12_order _ (by decide) (by decide)) (ckK_el h16) hc16 t_2471 t_2473 s_X12_order rfl (Nat.le_trans (cat_le _) (Nat.le_of_ble_eq_true rfl)) rfl ?_
      exact g_iret dX12_compare_41 rfl rfl hX2 hX1 hf
    · rw [if_neg c9] at hf
      refine g_sub (L' := []) [] rfl ?_
      exact bX12_compare_21 hX1 hX2 hf

theorem okX12_compare (M : Mt) (h1 : 5 + 1 ≤ M.2.2.2.2.1) (h2 : 8 + (3 + 11) + 174 ≤ M.2.2.2.2.2.1) : CallOk M MtX12_compare yX12_compare 2 := ⟨t_2622, h1, h2, ⟨by decide, by decide⟩, by decide +kernel, t_16⟩
abbrev MtX12_names : Mt := (cX12_names, 1, "ExactlySaidModel", (Option.some Jvm.ClassFile.FieldType.int), 1, 84, false)
set_option maxRecDepth 100000 in
set_option maxHeartbeats 4000000 in
theorem wX12_names (l : Launch) {σ σf : St} {x0 : Nat} {r : Int32} (hf : fX12_names σ x0 = some (σf, r)) : Con MtX12_names yX12_names l σ [rv x0] σf (some (.int r)) := by
  refine Con.of (by decide +kernel) rfl (fun h => absurd (show false = true from h) (by decide)) (by simp only [sl_n, sl_r, sl_i, sl_l]; exact Nat.le_of_ble_eq_true rfl) ?_
  rw [show lv_args 0 [rv x0] = [(0, rv x0)] by simp only [la_n, la_r, la_i, la_l] <;> rfl]
  have hX1 : ((l, σ, σf, .inl (some (.int r))) : Xt).2.2.1 = σf := rfl
  have hX2 : ((l, σ, σf, .inl (some (.int r))) : Xt).2.2.2 = .inl (some (.int r)) := rfl
  unfold fX12_names at hf
  refine g_aload_n (j := 0) dX12_names_0 rfl rfl ?_
  refine g_iconst (v := 0) dX12_names_1 (by decide) ?_
  obtain ⟨σ1, eσ1, hf⟩ := ob hf
  refine g_putI dX12_names_2 eσ1 (Or.inl t_1967) hin16 hc16 (by decide) hty16 hnm16 (Or.inl rfl) rfl rfl rfl ?_
  refine g_aload_n (j := 0) dX12_names_5 rfl rfl ?_
  obtain ⟨v2, ev2, hf⟩ := ob hf
  refine g_getI dX12_names_6 ev2 t_2007 hin16 hc16 (by decide) rfl ?_
  exact g_iret dX12_names_9 rfl rfl hX2 hX1 hf

theorem okX12_names (M : Mt) (h1 : 1 + 1 ≤ M.2.2.2.2.1) (h2 : 8 + (1 + 11) + 84 ≤ M.2.2.2.2.2.1) : CallOk M MtX12_names yX12_names 0 := ⟨t_2626, h1, h2, ⟨by decide, by decide⟩, by decide +kernel, t_16⟩
abbrev MtX12_nameAt : Mt := (cX12_nameAt, 5, "ExactlySaidModel", (Option.some Jvm.ClassFile.FieldType.int), 2, 106, false)
set_option maxRecDepth 100000 in
set_option maxHeartbeats 4000000 in
theorem bX12_nameAt_78 {X : Xt} {σf : St} {r : Int32} (hX1 : X.2.2.1 = σf) (hX2 : X.2.2.2 = .inl (some (.int r))) {k28 : St → Nat → Int32 → Int32 → Option (St × Int32)} {k41 : St → Nat → Int32 → Int32 → Int32 → Int32 → Option (St × Int32)} (hk28 : ∀ (σ : St) (x0 : Nat) (x1 : Int32) (x2 : Int32), k28 σ x0 x1 x2 = some (σf, r) → G MtX12_nameAt X σ 28 [(0, rv x0), (1, .int x1), (2, .int x2)] []) (hk41 : ∀ (σ : St) (x0 : Nat) (x1 : Int32) (x2 : Int32) (x3 : Int32) (x4 : Int32), k41 σ x0 x1 x2 x3 x4 = some (σf, r) → G MtX12_nameAt X σ 41 [(0, rv x0), (1, .int x1), (2, .int x2), (3, .int x3), (4, .int x4)] []) {σ : St} {x0 : Nat} {x1 : Int32} {x2 : Int32} {x4 : Int32} {y0 : Int32} {y1 : Int32} (hf : fX12_nameAt_78 k28 k41 σ x0 x1 x2 x4 y0 y1 = some (σf, r)) : G MtX12_nameAt X σ 78 [(0, rv x0), (1, .int x1), (2, .int x2), (4, .int x4)] [.int y1, .int y0] := by
  unfold fX12_nameAt_78 at hf
  refine g_iadd dX12_nameAt_78 ?_
  obtain ⟨v1, ev1, hf⟩ := nm_el hf
  refine g_topI ev1 ?_
  refine g_istore_n (i := 3) (L' := [(3, .int v1), (0, rv x0), (1, .int x1), (2, .int x2), (4, .int x4)]) dX12_nameAt_79 rfl (Nat.le_of_ble_eq_true rfl) rfl ?_
  obtain ⟨v2, ev2, hf⟩ := nm_el hf
  refine g_iinc (L' := [(4, .int v2), (3, .int v1), (0, rv x0), (1, .int x1), (2, .int x2)]) (j := 4) (v := v2) dX12_nameAt_80 rfl (by rw [ev2]; rfl) (Nat.le_of_ble_eq_true rfl) rfl ?_
  refine g_goto (tgt := 41) dX12_nameAt_83 (by decide) ?_
  refine g_sub (L' := [(0, rv x0), (1, .int x1), (2, .int x2), (3, .int v1), (4, .int v2)]) [2, 3, 4, 1, 0] rfl ?_
  exact hk41 _ _ _ _ _ _ hf

set_option maxRecDepth 100000 in
set_option maxHeartbeats 4000000 in
theorem bX12_nameAt_41 {X : Xt} {σf : St} {r : Int32} (hX1 : X.2.2.1 = σf) (hX2 : X.2.2.2 = .inl (some (.int r))) {k28 : St → Nat → Int32 → Int32 → Option (St × Int32)} (hk28 : ∀ (σ : St) (x0 : Nat) (x1 : Int32) (x2 : Int32), k28 σ x0 x1 x2 = some (σf, r) → G MtX12_nameAt X σ 28 [(0, rv x0), (1, .int x1), (2, .int x2)] []) : ∀ (n : Nat) (σ : St) (x0 : Nat) (x1 : Int32) (x2 : Int32) (x3 : Int32) (x4 : Int32), fX12_nameAt_41 k28 n σ x0 x1 x2 x3 x4 = some (σf, r) → G MtX12_nameAt X σ 41 [(0, rv x0), (1, .int x1), (2, .int x2), (3, .int x3), (4, .int x4)] [] := by
  intro n
  induction n with
  | zero => intro σ x0 x1 x2 x3 x4 hf; cases hf
  | succ n ih =>
    intro σ x0 x1 x2 x3 x4 hf
    rw [fX12_nameAt_41] at hf
    refine g_iload (j := 4) dX12_nameAt_41 rfl ?_
    refine g_aload_n (j := 0) dX12_nameAt_43 rfl rfl ?_
    obtain ⟨v1, ev1, hf⟩ := ob hf
    refine g_getI dX12_nameAt_44 ev1 t_2007 hin16 hc16 (by decide) rfl ?_
    refine g_icmp_ge (tgt := 86) dX12_nameAt_47 (by decide) (fun c2 => ?_) (fun c2 => ?_)
    · rw [if_pos c2] at hf
      refine g_iload_n (j := 3) dX12_nameAt_86 rfl rfl ?_
      refine g_iload_n (j := 1) dX12_nameAt_87 rfl rfl ?_
      refine g_icmp_ne (tgt := 98) dX12_nameAt_88 (by decide) (fun c3 => ?_) (fun c3 => ?_)
      · rw [if_neg c3] at hf
        obtain ⟨v4, ev4, hf⟩ := nm_el hf
        refine g_iinc (L' := [(2, .int v4), (0, rv x0), (1, .int x1), (3, .int x3), (4, .int x4)]) (j := 2) (v := v4) dX12_nameAt_98 rfl (by rw [ev4]; rfl) (Nat.le_of_ble_eq_true rfl) rfl ?_
        refine g_goto (tgt := 28) dX12_nameAt_101 (by decide) ?_
        refine g_sub (L' := [(0, rv x0), (1, .int x1), (2, .int v4)]) [1, 2, 0] rfl ?_
        exact hk28 _ _ _ _ hf
      · rw [if_pos c3] at hf
        refine g_aload_n (j := 0) dX12_nameAt_91 rfl rfl ?_
        obtain ⟨v5, ev5, hf⟩ := ob hf
        refine g_getF dX12_nameAt_92 ev5 t_2004 hin16 hc16 (by decide) rfl ?_
        refine g_iload_n (j := 2) dX12_nameAt_95 rfl rfl ?_
        obtain ⟨v6, ev6, hf⟩ := ob hf
        refine g_iald dX12_nameAt_96 ev6 ?_
        exact g_iret dX12_nameAt_97 rfl rfl hX2 hX1 hf
    · rw [if_neg c2] at hf
      refine g_iload_n (j := 3) dX12_nameAt_50 rfl rfl ?_
      refine g_aload_n (j := 0) dX12_nameAt_51 rfl rfl ?_
      obtain ⟨v7, ev7, hf⟩ := ob hf
      refine g_getF dX12_nameAt_52 ev7 t_2004 hin16 hc16 (by decide) rfl ?_
      refine g_iload (j := 4) dX12_nameAt_55 rfl ?_
      obtain ⟨v8, ev8, hf⟩ := ob hf
      refine g_iald dX12_nameAt_57 ev8 ?_
      obtain ⟨σ9, v10, eσ9, hf⟩ := cb_el hf
      refine g_callS_i dX12_nameAt_58 (wX12_orderOf _ eσ9) (okX12_orderOf _ (by decide) (by decide)) t_2399 t_2400 rfl (Nat.le_trans (cat_le _) (Nat.le_of_ble_eq_true rfl)) rfl ?_
      refine g_aload_n (j := 0) dX12_nameAt_61 rfl rfl ?_
      obtain ⟨v11, ev11, hf⟩ := ob hf
      refine g_getF dX12_nameAt_62 ev11 t_2004 hin16 hc16 (by decide) rfl ?_
      refine g_iload_n (j := 2) dX12_nameAt_65 rfl rfl ?_
      obtain ⟨v12, ev12, hf⟩ := ob hf
      refine g_iald dX12_nameAt_66 ev12 ?_
      obtain ⟨σ13, v14, eσ13, hf⟩ := cb_el hf
      refine g_callS_i dX12_nameAt_67 (wX12_orderOf _ eσ13) (okX12_orderOf _ (by decide) (by decide)) t_2399 t_2400 rfl (Nat.le_trans (cat_le _) (Nat.le_of_ble_eq_true rfl)) rfl ?_
      refine g_icmp_ge (tgt := 77) dX12_nameAt_70 (by decide) (fun c15 => ?_) (fun c15 => ?_)
      · rw [if_pos c15] at hf
        refine g_iconst (v := 0) dX12_nameAt_77 (by decide) ?_
        refine g_sub (L' := [(0, rv x0), (1, .int x1), (2, .int x2), (4, .int x4)]) [0, 1, 2, 4] rfl ?_
        exact bX12_nameAt_78 hX1 hX2 hk28 (fun σ x0 x1 x2 x3 x4 hf => ih σ x0 x1 x2 x3 x4 hf) hf
      · rw [if_neg c15] at hf
        refine g_iconst (v := 1) dX12_nameAt_73 (by decide) ?_
        refine g_goto (tgt := 78) dX12_nameAt_74 (by decide) ?_
        refine g_sub (L' := [(0, rv x0), (1, .int x1), (2, .int x2), (4, .int x4)]) [0, 1, 2, 4] rfl ?_
        exact bX12_nameAt_78 hX1 hX2 hk28 (fun σ x0 x1 x2 x3 x4 hf => ih σ x0 x1 x2 x3 x4 hf) hf

set_option maxRecDepth 100000 in
set_option maxHeartbeats 4000000 in
theorem bX12_nameAt_28 {X : Xt} {σf : St} {r : Int32} (hX1 : X.2.2.1 = σf) (hX2 : X.2.2.2 = .inl (some (.int r))) : ∀ (n : Nat) (σ : St) (x0 : Nat) (x1 : Int32) (x2 : Int32), fX12_nameAt_28 n σ x0 x1 x2 = some (σf, r) → G MtX12_nameAt X σ 28 [(0, rv x0), (1, .int x1), (2, .int x2)] [] := by
  intro n
  induction n with
  | zero => intro σ x0 x1 x2 hf; cases hf
  | succ n ih =>
    intro σ x0 x1 x2 hf
    rw [fX12_nameAt_28] at hf
    refine g_iload_n (j := 2) dX12_nameAt_28 rfl rfl ?_
    refine g_aload_n (j := 0) dX12_nameAt_29 rfl rfl ?_
    obtain ⟨v1, ev1, hf⟩ := ob hf
    refine g_getI dX12_nameAt_30 ev1 t_2007 hin16 hc16 (by decide) rfl ?_
    refine g_icmp_ge (tgt := 104) dX12_nameAt_33 (by decide) (fun c2 => ?_) (fun c2 => ?_)
    · rw [if_pos c2] at hf
      refine g_iconst (v := (-1)) dX12_nameAt_104 (by decide) ?_
      exact g_iret dX12_nameAt_105 rfl rfl hX2 hX1 hf
    · rw [if_neg c2] at hf
      refine g_iconst (v := 0) dX12_nameAt_36 (by decide) ?_
      refine g_istore_n (i := 3) (L' := [(3, .int 0), (0, rv x0), (1, .int x1), (2, .int x2)]) dX12_nameAt_37 rfl (Nat.le_of_ble_eq_true rfl) rfl ?_
      refine g_iconst (v := 0) dX12_nameAt_38 (by decide) ?_
      refine g_istore (i := 4) (L' := [(4, .int 0), (3, .int 0), (0, rv x0), (1, .int x1), (2, .int x2)]) dX12_nameAt_39 (Nat.le_of_ble_eq_true rfl) rfl ?_
      refine g_sub (L' := [(0, rv x0), (1, .int x1), (2, .int x2), (3, .int 0), (4, .int 0)]) [2, 3, 4, 1, 0] rfl ?_
      exact bX12_nameAt_41 hX1 hX2 (fun σ x0 x1 x2 hf => ih σ x0 x1 x2 hf) FU _ _ _ _ _ _ hf

set_option maxRecDepth 100000 in
set_option maxHeartbeats 4000000 in
theorem wX12_nameAt (l : Launch) {σ σf : St} {x0 : Nat} {x1 : Int32} {r : Int32} (hf : fX12_nameAt σ x0 x1 = some (σf, r)) : Con MtX12_nameAt yX12_nameAt l σ [rv x0, .int x1] σf (some (.int r)) := by
  refine Con.of (by decide +kernel) rfl (fun h => absurd (show false = true from h) (by decide)) (by simp only [sl_n, sl_r, sl_i, sl_l]; exact Nat.le_of_ble_eq_true rfl) ?_
  rw [show lv_args 0 [rv x0, .int x1] = [(0, rv x0), (1, .int x1)] by simp only [la_n, la_r, la_i, la_l] <;> rfl]
  have hX1 : ((l, σ, σf, .inl (some (.int r))) : Xt).2.2.1 = σf := rfl
  have hX2 : ((l, σ, σf, .inl (some (.int r))) : Xt).2.2.2 = .inl (some (.int r)) := rfl
  unfold fX12_nameAt at hf
  refine g_aload_n (j := 0) dX12_nameAt_0 rfl rfl ?_
  refine g_iconst (v := 0) dX12_nameAt_1 (by decide) ?_
  obtain ⟨σ1, eσ1, hf⟩ := ob hf
  refine g_putI dX12_nameAt_2 eσ1 (Or.inl t_1967) hin16 hc16 (by decide) hty16 hnm16 (Or.inl rfl) rfl rfl rfl ?_
  refine g_aload_n (j := 0) dX12_nameAt_5 rfl rfl ?_
  refine g_iload_n (j := 1) dX12_nameAt_6 rfl rfl ?_
  refine g_iconst (v := 0) dX12_nameAt_7 (by decide) ?_
  refine g_aload_n (j := 0) dX12_nameAt_8 rfl rfl ?_
  obtain ⟨v2, ev2, hf⟩ := ob hf
  refine g_getI dX12_nameAt_9 ev2 t_2007 hin16 hc16 (by decide) rfl ?_
  refine g_iconst (v := 1) dX12_nameAt_12 (by decide) ?_
  refine g_isub dX12_nameAt_13 ?_
  obtain ⟨σ3, v4, eσ3, hf⟩ := cb_el hf
  refine g_callS_i dX12_nameAt_14 (wX12_in _ eσ3) (okX12_in _ (by decide) (by decide)) t_2257 t_2258 rfl (Nat.le_trans (cat_le _) (Nat.le_of_ble_eq_true rfl)) rfl ?_
  refine g_iconst (v := 1) dX12_nameAt_17 (by decide) ?_
  obtain ⟨_, h7, hf⟩ := ob hf
  obtain ⟨σ5, v6, eσ5, hf⟩ := cb_el hf
  refine g_callV_i dX12_nameAt_18 (wX12_fails _ eσ5) (okX12_fails _ (by decide) (by decide)) (ckK_el h7) hc16 t_2225 t_2227 s_X12_fails rfl (Nat.le_trans (cat_le _) (Nat.le_of_ble_eq_true rfl)) rfl ?_
  refine g_if_eq (tgt := 26) dX12_nameAt_21 (by decide) (fun c8 => ?_) (fun c8 => ?_)
  · rw [if_pos c8] at hf
    refine g_iconst (v := 0) dX12_nameAt_26 (by decide) ?_
    refine g_istore_n (i := 2) (L' := [(2, .int 0), (0, rv x0), (1, .int x1)]) dX12_nameAt_27 rfl (Nat.le_of_ble_eq_true rfl) rfl ?_
    refine g_sub (L' := [(0, rv x0), (1, .int x1), (2, .int 0)]) [1, 2, 0] rfl ?_
    exact bX12_nameAt_28 hX1 hX2 FU _ _ _ _ hf
  · rw [if_neg c8] at hf
    refine g_iconst (v := 0) dX12_nameAt_24 (by decide) ?_
    exact g_iret dX12_nameAt_25 rfl rfl hX2 hX1 hf

theorem okX12_nameAt (M : Mt) (h1 : 2 + 1 ≤ M.2.2.2.2.1) (h2 : 8 + (5 + 11) + 106 ≤ M.2.2.2.2.2.1) : CallOk M MtX12_nameAt yX12_nameAt 1 := ⟨t_2630, h1, h2, ⟨by decide, by decide⟩, by decide +kernel, t_16⟩
abbrev MtX12_takeName : Mt := (cX12_takeName, 3, "ExactlySaidModel", (Option.some Jvm.ClassFile.FieldType.int), 4, 150, false)
set_option maxRecDepth 100000 in
set_option maxHeartbeats 4000000 in
theorem bX12_takeName_23 {X : Xt} {σf : St} {r : Int32} (hX1 : X.2.2.1 = σf) (hX2 : X.2.2.2 = .inl (some (.int r))) {σ : St} {x0 : Nat} {x2 : Int32} {y0 : Nat} {y1 : Int32} (hf : fX12_takeName_23 σ x0 x2 y0 y1 = some (σf, r)) : G MtX12_takeName X σ 23 [(0, rv x0), (2, .int x2)] [.int y1, rv y0] := by
  unfold fX12_takeName_23 at hf
  refine g_iconst (v := 1) dX12_takeName_23 (by decide) ?_
  obtain ⟨_, h3, hf⟩ := ob hf
  obtain ⟨σ1, v2, eσ1, hf⟩ := cb_el hf
  refine g_callV_i dX12_takeName_24 (wX12_fails _ eσ1) (okX12_fails _ (by decide) (by decide)) (ckK_el h3) hc16 t_2225 t_2227 s_X12_fails rfl (Nat.le_trans (cat_le _) (Nat.le_of_ble_eq_true rfl)) rfl ?_
  refine g_if_eq (tgt := 34) dX12_takeName_27 (by decide) (fun c4 => ?_) (fun c4 => ?_)
  · rw [if_pos c4] at hf
    refine g_aload_n (j := 0) dX12_takeName_34 rfl rfl ?_
    refine g_aload_n (j := 0) dX12_takeName_35 rfl rfl ?_
    obtain ⟨v5, ev5, hf⟩ := ob hf
    refine g_getF dX12_takeName_36 ev5 t_2006 hin16 hc16 (by decide) rfl ?_
    refine g_iload_n (j := 1) dX12_takeName_39 rfl rfl ?_
    obtain ⟨v6, ev6, hf⟩ := ob hf
    refine g_iald dX12_takeName_40 ev6 ?_
    obtain ⟨_, h9, hf⟩ := ob hf
    obtain ⟨σ7, v8, eσ7, hf⟩ := cb_el hf
    refine g_callV_i dX12_takeName_41 (wX12_becomes _ eσ7) (okX12_becomes _ (by decide) (by decide)) (ckK_el h9) hc16 t_2615 t_2617 s_X12_becomes rfl (Nat.le_trans (cat_le _) (Nat.le_of_ble_eq_true rfl)) rfl ?_
    exact g_iret dX12_takeName_44 rfl rfl hX2 hX1 hf
  · rw [if_neg c4] at hf
    refine g_iconst (v := 0) dX12_takeName_30 (by decide) ?_
    refine g_goto (tgt := 44) dX12_takeName_31 (by decide) ?_
    exact g_iret dX12_takeName_44 rfl rfl hX2 hX1 hf

set_option maxRecDepth 100000 in
set_option maxHeartbeats 4000000 in
theorem wX12_takeName (l : Launch) {σ σf : St} {x0 : Nat} {x1 : Int32} {r : Int32} (hf : fX12_takeName σ x0 x1 = some (σf, r)) : Con MtX12_takeName yX12_takeName l σ [rv x0, .int x1] σf (some (.int r)) := by
  refine Con.of (by decide +kernel) rfl (fun h => absurd (show false = true from h) (by decide)) (by simp only [sl_n, sl_r, sl_i, sl_l]; exact Nat.le_of_ble_eq_true rfl) ?_
  rw [show lv_args 0 [rv x0, .int x1] = [(0, rv x0), (1, .int x1)] by simp only [la_n, la_r, la_i, la_l] <;> rfl]
  have hX1 : ((l, σ, σf, .inl (some (.int r))) : Xt).2.2.1 = σf := rfl
  have hX2 : ((l, σ, σf, .inl (some (.int r))) : Xt).2.2.2 = .inl (some (.int r)) := rfl
  unfold fX12_takeName at hf
  refine g_aload_n (j := 0) dX12_takeName_0 rfl rfl ?_
  refine g_iconst (v := 0) dX12_takeName_1 (by decide) ?_
  obtain ⟨σ1, eσ1, hf⟩ := ob hf
  refine g_putI dX12_takeName_2 eσ1 (Or.inl t_1967) hin16 hc16 (by decide) hty16 hnm16 (Or.inl rfl) rfl rfl rfl ?_
  refine g_aload_n (j := 0) dX12_takeName_5 rfl rfl ?_
  refine g_iload_n (j := 1) dX12_takeName_6 rfl rfl ?_
  refine g_iconst (v := 0) dX12_takeName_7 (by decide) ?_
  obtain ⟨_, h4, hf⟩ := ob hf
  obtain ⟨σ2, v3, eσ2, hf⟩ := cb_el hf
  refine g_callV_i dX12_takeName_8 (wX12_thing _ eσ2) (okX12_thing _ (by decide) (by decide)) (ckK_el h4) hc16 t_2357 t_2359 s_X12_thing rfl (Nat.le_trans (cat_le _) (Nat.le_of_ble_eq_true rfl)) rfl ?_
  refine g_istore_n (i := 2) (L' := [(2, .int v3), (0, rv x0), (1, .int x1)]) dX12_takeName_11 rfl (Nat.le_of_ble_eq_true rfl) rfl ?_
  refine g_aload_n (j := 1) dX12_takeName_12 rfl rfl ?_
  refine g_iload_n (j := 0) dX12_takeName_13 rfl rfl ?_
  refine g_iconst (v := (-1)) dX12_takeName_14 (by decide) ?_
  refine g_icmp_eq (tgt := 22) dX12_takeName_15 (by decide) (fun c5 => ?_) (fun c5 => ?_)
  · rw [if_pos c5] at hf
    refine g_iconst (v := 0) dX12_takeName_22 (by decide) ?_
    refine g_sub (L' := [(0, rv x0), (2, .int v3)]) [1, 0] rfl ?_
    exact bX12_takeName_23 hX1 hX2 hf
  · rw [if_neg c5] at hf
    refine g_iconst (v := 1) dX12_takeName_18 (by decide) ?_
    refine g_goto (tgt := 23) dX12_takeName_19 (by decide) ?_
    refine g_sub (L' := [(0, rv x0), (2, .int v3)]) [1, 0] rfl ?_
    exact bX12_takeName_23 hX1 hX2 hf

theorem okX12_takeName (M : Mt) (h1 : 4 + 1 ≤ M.2.2.2.2.1) (h2 : 8 + (3 + 11) + 150 ≤ M.2.2.2.2.2.1) : CallOk M MtX12_takeName yX12_takeName 1 := ⟨t_2634, h1, h2, ⟨by decide, by decide⟩, by decide +kernel, t_16⟩
abbrev MtX12_functions : Mt := (cX12_functions, 1, "ExactlySaidModel", (Option.some Jvm.ClassFile.FieldType.int), 1, 84, false)
set_option maxRecDepth 100000 in
set_option maxHeartbeats 4000000 in
theorem wX12_functions (l : Launch) {σ σf : St} {x0 : Nat} {r : Int32} (hf : fX12_functions σ x0 = some (σf, r)) : Con MtX12_functions yX12_functions l σ [rv x0] σf (some (.int r)) := by
  refine Con.of (by decide +kernel) rfl (fun h => absurd (show false = true from h) (by decide)) (by simp only [sl_n, sl_r, sl_i, sl_l]; exact Nat.le_of_ble_eq_true rfl) ?_
  rw [show lv_args 0 [rv x0] = [(0, rv x0)] by simp only [la_n, la_r, la_i, la_l] <;> rfl]
  have hX1 : ((l, σ, σf, .inl (some (.int r))) : Xt).2.2.1 = σf := rfl
  have hX2 : ((l, σ, σf, .inl (some (.int r))) : Xt).2.2.2 = .inl (some (.int r)) := rfl
  unfold fX12_functions at hf
  refine g_aload_n (j := 0) dX12_functions_0 rfl rfl ?_
  refine g_iconst (v := 0) dX12_functions_1 (by decide) ?_
  obtain ⟨σ1, eσ1, hf⟩ := ob hf
  refine g_putI dX12_functions_2 eσ1 (Or.inl t_1967) hin16 hc16 (by decide) hty16 hnm16 (Or.inl rfl) rfl rfl rfl ?_
  refine g_aload_n (j := 0) dX12_functions_5 rfl rfl ?_
  obtain ⟨v2, ev2, hf⟩ := ob hf
  refine g_getI dX12_functions_6 ev2 t_2008 hin16 hc16 (by decide) rfl ?_
  exact g_iret dX12_functions_9 rfl rfl hX2 hX1 hf

theorem okX12_functions (M : Mt) (h1 : 1 + 1 ≤ M.2.2.2.2.1) (h2 : 8 + (1 + 11) + 84 ≤ M.2.2.2.2.2.1) : CallOk M MtX12_functions yX12_functions 0 := ⟨t_2638, h1, h2, ⟨by decide, by decide⟩, by decide +kernel, t_16⟩
abbrev MtX12_parameters : Mt := (cX12_parameters, 3, "ExactlySaidModel", (Option.some Jvm.ClassFile.FieldType.int), 2, 108, false)
set_option maxRecDepth 100000 in
set_option maxHeartbeats 4000000 in
theorem bX12_parameters_23 {X : Xt} {σf : St} {r : Int32} (hX1 : X.2.2.1 = σf) (hX2 : X.2.2.2 = .inl (some (.int r))) {σ : St} {x0 : Nat} {x2 : Int32} {y0 : Nat} {y1 : Int32} (hf : fX12_parameters_23 σ x0 x2 y0 y1 = some (σf, r)) : G MtX12_parameters X σ 23 [(0, rv x0), (2, .int x2)] [.int y1, rv y0] := by
  unfold fX12_parameters_23 at hf
  refine g_iconst (v := 1) dX12_parameters_23 (by decide) ?_
  obtain ⟨_, h3, hf⟩ := ob hf
  obtain ⟨σ1, v2, eσ1, hf⟩ := cb_el hf
  refine g_callV_i dX12_parameters_24 (wX12_fails _ eσ1) (okX12_fails _ (by decide) (by decide)) (ckK_el h3) hc16 t_2225 t_2227 s_X12_fails rfl (Nat.le_trans (cat_le _) (Nat.le_of_ble_eq_true rfl)) rfl ?_
  refine g_if_eq (tgt := 34) dX12_parameters_27 (by decide) (fun c4 => ?_) (fun c4 => ?_)
  · rw [if_pos c4] at hf
    refine g_aload_n (j := 0) dX12_parameters_34 rfl rfl ?_
    obtain ⟨v5, ev5, hf⟩ := ob hf
    refine g_getF dX12_parameters_35 ev5 t_1991 hin16 hc16 (by decide) rfl ?_
    refine g_aload_n (j := 0) dX12_parameters_38 rfl rfl ?_
    obtain ⟨v6, ev6, hf⟩ := ob hf
    refine g_getF dX12_parameters_39 ev6 t_2005 hin16 hc16 (by decide) rfl ?_
    refine g_iload_n (j := 1) dX12_parameters_42 rfl rfl ?_
    obtain ⟨v7, ev7, hf⟩ := ob hf
    refine g_iald dX12_parameters_43 ev7 ?_
    obtain ⟨v8, ev8, hf⟩ := ob hf
    refine g_iald dX12_parameters_44 ev8 ?_
    exact g_iret dX12_parameters_45 rfl rfl hX2 hX1 hf
  · rw [if_neg c4] at hf
    refine g_iconst (v := 0) dX12_parameters_30 (by decide) ?_
    refine g_goto (tgt := 45) dX12_parameters_31 (by decide) ?_
    exact g_iret dX12_parameters_45 rfl rfl hX2 hX1 hf

set_option maxRecDepth 100000 in
set_option maxHeartbeats 4000000 in
theorem wX12_parameters (l : Launch) {σ σf : St} {x0 : Nat} {x1 : Int32} {r : Int32} (hf : fX12_parameters σ x0 x1 = some (σf, r)) : Con MtX12_parameters yX12_parameters l σ [rv x0, .int x1] σf (some (.int r)) := by
  refine Con.of (by decide +kernel) rfl (fun h => absurd (show false = true from h) (by decide)) (by simp only [sl_n, sl_r, sl_i, sl_l]; exact Nat.le_of_ble_eq_true rfl) ?_
  rw [show lv_args 0 [rv x0, .int x1] = [(0, rv x0), (1, .int x1)] by simp only [la_n, la_r, la_i, la_l] <;> rfl]
  have hX1 : ((l, σ, σf, .inl (some (.int r))) : Xt).2.2.1 = σf := rfl
  have hX2 : ((l, σ, σf, .inl (some (.int r))) : Xt).2.2.2 = .inl (some (.int r)) := rfl
  unfold fX12_parameters at hf
  refine g_aload_n (j := 0) dX12_parameters_0 rfl rfl ?_
  refine g_iconst (v := 0) dX12_parameters_1 (by decide) ?_
  obtain ⟨σ1, eσ1, hf⟩ := ob hf
  refine g_putI dX12_parameters_2 eσ1 (Or.inl t_1967) hin16 hc16 (by decide) hty16 hnm16 (Or.inl rfl) rfl rfl rfl ?_
  refine g_aload_n (j := 0) dX12_parameters_5 rfl rfl ?_
  refine g_iload_n (j := 1) dX12_parameters_6 rfl rfl ?_
  refine g_iconst (v := 1) dX12_parameters_7 (by decide) ?_
  obtain ⟨_, h4, hf⟩ := ob hf
  obtain ⟨σ2, v3, eσ2, hf⟩ := cb_el hf
  refine g_callV_i dX12_parameters_8 (wX12_thing _ eσ2) (okX12_thing _ (by decide) (by decide)) (ckK_el h4) hc16 t_2357 t_2359 s_X12_thing rfl (Nat.le_trans (cat_le _) (Nat.le_of_ble_eq_true rfl)) rfl ?_
  refine g_istore_n (i := 2) (L' := [(2, .int v3), (0, rv x0), (1, .int x1)]) dX12_parameters_11 rfl (Nat.le_of_ble_eq_true rfl) rfl ?_
  refine g_aload_n (j := 1) dX12_parameters_12 rfl rfl ?_
  refine g_iload_n (j := 0) dX12_parameters_13 rfl rfl ?_
  refine g_iconst (v := (-1)) dX12_parameters_14 (by decide) ?_
  refine g_icmp_eq (tgt := 22) dX12_parameters_15 (by decide) (fun c5 => ?_) (fun c5 => ?_)
  · rw [if_pos c5] at hf
    refine g_iconst (v := 0) dX12_parameters_22 (by decide) ?_
    refine g_sub (L' := [(0, rv x0), (2, .int v3)]) [1, 0] rfl ?_
    exact bX12_parameters_23 hX1 hX2 hf
  · rw [if_neg c5] at hf
    refine g_iconst (v := 1) dX12_parameters_18 (by decide) ?_
    refine g_goto (tgt := 23) dX12_parameters_19 (by decide) ?_
    refine g_sub (L' := [(0, rv x0), (2, .int v3)]) [1, 0] rfl ?_
    exact bX12_parameters_23 hX1 hX2 hf

theorem okX12_parameters (M : Mt) (h1 : 2 + 1 ≤ M.2.2.2.2.1) (h2 : 8 + (3 + 11) + 108 ≤ M.2.2.2.2.2.1) : CallOk M MtX12_parameters yX12_parameters 1 := ⟨t_2642, h1, h2, ⟨by decide, by decide⟩, by decide +kernel, t_16⟩
abbrev MtX12_uses : Mt := (cX12_uses, 7, "ExactlySaidModel", (Option.some Jvm.ClassFile.FieldType.boolean), 4, 153, false)
set_option maxRecDepth 100000 in
set_option maxHeartbeats 4000000 in
theorem wX12_uses (l : Launch) {σ σf : St} {x0 : Nat} {x1 : Int32} {x2 : Int32} {x3 : Int32} {x4 : Int32} {r : Int32} (hf : fX12_uses σ x0 x1 x2 x3 x4 = some (σf, r)) : Con MtX12_uses yX12_uses l σ [rv x0, .int x1, .int x2, .int x3, .int x4] σf (some (.int r)) := by
  refine Con.of (by decide +kernel) rfl (fun h => absurd (show false = true from h) (by decide)) (by simp only [sl_n, sl_r, sl_i, sl_l]; exact Nat.le_of_ble_eq_true rfl) ?_
  rw [show lv_args 0 [rv x0, .int x1, .int x2, .int x3, .int x4] = [(0, rv x0), (1, .int x1), (2, .int x2), (3, .int x3), (4, .int x4)] by simp only [la_n, la_r, la_i, la_l] <;> rfl]
  have hX1 : ((l, σ, σf, .inl (some (.int r))) : Xt).2.2.1 = σf := rfl
  have hX2 : ((l, σ, σf, .inl (some (.int r))) : Xt).2.2.2 = .inl (some (.int r)) := rfl
  unfold fX12_uses at hf
  refine g_aload_n (j := 0) dX12_uses_0 rfl rfl ?_
  refine g_iconst (v := 0) dX12_uses_1 (by decide) ?_
  obtain ⟨σ1, eσ1, hf⟩ := ob hf
  refine g_putI dX12_uses_2 eσ1 (Or.inl t_1967) hin16 hc16 (by decide) hty16 hnm16 (Or.inl rfl) rfl rfl rfl ?_
  refine g_aload_n (j := 0) dX12_uses_5 rfl rfl ?_
  refine g_iload_n (j := 1) dX12_uses_6 rfl rfl ?_
  refine g_iload_n (j := 2) dX12_uses_7 rfl rfl ?_
  obtain ⟨_, h4, hf⟩ := ob hf
  obtain ⟨σ2, v3, eσ2, hf⟩ := cb_el hf
  refine g_callV_i dX12_uses_8 (wX12_thing _ eσ2) (okX12_thing _ (by decide) (by decide)) (ckK_el h4) hc16 t_2357 t_2359 s_X12_thing rfl (Nat.le_trans (cat_le _) (Nat.le_of_ble_eq_true rfl)) rfl ?_
  refine g_istore (i := 5) (L' := [(5, .int v3), (0, rv x0), (1, .int x1), (2, .int x2), (3, .int x3), (4, .int x4)]) dX12_uses_11 (Nat.le_of_ble_eq_true rfl) rfl ?_
  refine g_aload_n (j := 1) dX12_uses_13 rfl rfl ?_
  refine g_iload_n (j := 4) dX12_uses_14 rfl rfl ?_
  refine g_iload (j := 5) dX12_uses_15 rfl ?_
  obtain ⟨_, h7, hf⟩ := ob hf
  obtain ⟨σ5, v6, eσ5, hf⟩ := cb_el hf
  refine g_callV_i dX12_uses_17 (wX12_thing _ eσ5) (okX12_thing _ (by decide) (by decide)) (ckK_el h7) hc16 t_2357 t_2359 s_X12_thing rfl (Nat.le_trans (cat_le _) (Nat.le_of_ble_eq_true rfl)) rfl ?_
  refine g_istore (i := 6) (L' := [(6, .int v6), (5, .int v3), (0, rv x0), (1, .int x1), (2, .int x2), (3, .int x3), (4, .int x4)]) dX12_uses_20 (Nat.le_of_ble_eq_true rfl) rfl ?_
  refine g_iload (j := 1) dX12_uses_22 rfl ?_
  refine g_iconst (v := (-1)) dX12_uses_24 (by decide) ?_
  refine g_icmp_eq (tgt := 49) dX12_uses_25 (by decide) (fun c8 => ?_) (fun c8 => ?_)
  · rw [if_pos c8] at hf
    refine g_iconst (v := 0) dX12_uses_49 (by decide) ?_
    exact g_iret dX12_uses_50 rfl (by decide) hX2 hX1 hf
  · rw [if_neg c8] at hf
    refine g_iload (j := 0) dX12_uses_28 rfl ?_
    refine g_iconst (v := (-1)) dX12_uses_30 (by decide) ?_
    refine g_icmp_eq (tgt := 49) dX12_uses_31 (by decide) (fun c9 => ?_) (fun c9 => ?_)
    · rw [if_pos c9] at hf
      refine g_iconst (v := 0) dX12_uses_49 (by decide) ?_
      exact g_iret dX12_uses_50 rfl (by decide) hX2 hX1 hf
    · rw [if_neg c9] at hf
      refine g_aload_n (j := 2) dX12_uses_34 rfl rfl ?_
      refine g_iload (j := 1) dX12_uses_35 rfl ?_
      refine g_iload (j := 0) dX12_uses_37 rfl ?_
      obtain ⟨_, h12, hf⟩ := ob hf
      obtain ⟨σ10, v11, eσ10, hf⟩ := cb_el hf
      refine g_callV_i dX12_uses_39 (wX12_doesUse _ eσ10) (okX12_doesUse _ (by decide) (by decide)) (ckK_el h12) hc16 t_2383 t_2385 s_X12_doesUse rfl (Nat.le_trans (cat_le _) (Nat.le_of_ble_eq_true rfl)) rfl ?_
      refine g_if_eq (tgt := 49) dX12_uses_42 (by decide) (fun c13 => ?_) (fun c13 => ?_)
      · rw [if_pos c13] at hf
        refine g_iconst (v := 0) dX12_uses_49 (by decide) ?_
        exact g_iret dX12_uses_50 rfl (by decide) hX2 hX1 hf
      · rw [if_neg c13] at hf
        refine g_iconst (v := 1) dX12_uses_45 (by decide) ?_
        refine g_goto (tgt := 50) dX12_uses_46 (by decide) ?_
        exact g_iret dX12_uses_50 rfl (by decide) hX2 hX1 hf

theorem okX12_uses (M : Mt) (h1 : 4 + 1 ≤ M.2.2.2.2.1) (h2 : 8 + (7 + 11) + 153 ≤ M.2.2.2.2.2.1) : CallOk M MtX12_uses yX12_uses 4 := ⟨t_2646, h1, h2, ⟨by decide, by decide⟩, by decide +kernel, t_16⟩
abbrev MtX12_users_ : Mt := (cX12_users_, 6, "ExactlySaidModel", (Option.some Jvm.ClassFile.FieldType.int), 4, 153, false)
set_option maxRecDepth 100000 in
set_option maxHeartbeats 4000000 in
theorem bX12_users__49 {X : Xt} {σf : St} {r : Int32} (hX1 : X.2.2.1 = σf) (hX2 : X.2.2.2 = .inl (some (.int r))) {k18 : St → Nat → Int32 → Int32 → Int32 → Option (St × Int32)} (hk18 : ∀ (σ : St) (x0 : Nat) (x3 : Int32) (x4 : Int32) (x5 : Int32), k18 σ x0 x3 x4 x5 = some (σf, r) → G MtX12_users_ X σ 18 [(0, rv x0), (3, .int x3), (4, .int x4), (5, .int x5)] []) {σ : St} {x0 : Nat} {x3 : Int32} {x5 : Int32} {y0 : Int32} {y1 : Int32} (hf : fX12_users__49 k18 σ x0 x3 x5 y0 y1 = some (σf, r)) : G MtX12_users_ X σ 49 [(0, rv x0), (3, .int x3), (5, .int x5)] [.int y1, .int y0] := by
  unfold fX12_users__49 at hf
  refine g_iadd dX12_users__49 ?_
  obtain ⟨v1, ev1, hf⟩ := nm_el hf
  refine g_topI ev1 ?_
  refine g_istore (i := 4) (L' := [(4, .int v1), (0, rv x0), (3, .int x3), (5, .int x5)]) dX12_users__50 (Nat.le_of_ble_eq_true rfl) rfl ?_
  obtain ⟨v2, ev2, hf⟩ := nm_el hf
  refine g_iinc (L' := [(5, .int v2), (4, .int v1), (0, rv x0), (3, .int x3)]) (j := 3) (v := v2) dX12_users__52 rfl (by rw [ev2]; rfl) (Nat.le_of_ble_eq_true rfl) rfl ?_
  refine g_goto (tgt := 18) dX12_users__55 (by decide) ?_
  refine g_sub (L' := [(0, rv x0), (3, .int x3), (4, .int v1), (5, .int v2)]) [2, 3, 1, 0] rfl ?_
  exact hk18 _ _ _ _ _ hf

set_option maxRecDepth 100000 in
set_option maxHeartbeats 4000000 in
theorem bX12_users__18 {X : Xt} {σf : St} {r : Int32} (hX1 : X.2.2.1 = σf) (hX2 : X.2.2.2 = .inl (some (.int r))) : ∀ (n : Nat) (σ : St) (x0 : Nat) (x3 : Int32) (x4 : Int32) (x5 : Int32), fX12_users__18 n σ x0 x3 x4 x5 = some (σf, r) → G MtX12_users_ X σ 18 [(0, rv x0), (3, .int x3), (4, .int x4), (5, .int x5)] [] := by
  intro n
  induction n with
  | zero => intro σ x0 x3 x4 x5 hf; cases hf
  | succ n ih =>
    intro σ x0 x3 x4 x5 hf
    rw [fX12_users__18] at hf
    refine g_iload (j := 3) dX12_users__18 rfl ?_
    refine g_aload_n (j := 0) dX12_users__20 rfl rfl ?_
    obtain ⟨v1, ev1, hf⟩ := ob hf
    refine g_getI dX12_users__21 ev1 t_2007 hin16 hc16 (by decide) rfl ?_
    refine g_icmp_ge (tgt := 58) dX12_users__24 (by decide) (fun c2 => ?_) (fun c2 => ?_)
    · rw [if_pos c2] at hf
      refine g_iload (j := 2) dX12_users__58 rfl ?_
      exact g_iret dX12_users__60 rfl rfl hX2 hX1 hf
    · rw [if_neg c2] at hf
      refine g_iload_n (j := 1) dX12_users__27 rfl rfl ?_
      refine g_iconst (v := (-1)) dX12_users__28 (by decide) ?_
      refine g_icmp_eq (tgt := 58) dX12_users__29 (by decide) (fun c3 => ?_) (fun c3 => ?_)
      · rw [if_pos c3] at hf
        refine g_iload (j := 2) dX12_users__58 rfl ?_
        exact g_iret dX12_users__60 rfl rfl hX2 hX1 hf
      · rw [if_neg c3] at hf
        refine g_iload (j := 2) dX12_users__32 rfl ?_
        refine g_aload_n (j := 0) dX12_users__34 rfl rfl ?_
        refine g_iload (j := 3) dX12_users__35 rfl ?_
        refine g_iload_n (j := 1) dX12_users__37 rfl rfl ?_
        obtain ⟨_, h6, hf⟩ := ob hf
        obtain ⟨σ4, v5, eσ4, hf⟩ := cb_el hf
        refine g_callV_i dX12_users__38 (wX12_doesUse _ eσ4) (okX12_doesUse _ (by decide) (by decide)) (ckK_el h6) hc16 t_2383 t_2385 s_X12_doesUse rfl (Nat.le_trans (cat_le _) (Nat.le_of_ble_eq_true rfl)) rfl ?_
        refine g_if_eq (tgt := 48) dX12_users__41 (by decide) (fun c7 => ?_) (fun c7 => ?_)
        · rw [if_pos c7] at hf
          refine g_iconst (v := 0) dX12_users__48 (by decide) ?_
          refine g_sub (L' := [(0, rv x0), (3, .int x3), (5, .int x5)]) [0, 1, 3] rfl ?_
          exact bX12_users__49 hX1 hX2 (fun σ x0 x3 x4 x5 hf => ih σ x0 x3 x4 x5 hf) hf
        · rw [if_neg c7] at hf
          refine g_iconst (v := 1) dX12_users__44 (by decide) ?_
          refine g_goto (tgt := 49) dX12_users__45 (by decide) ?_
          refine g_sub (L' := [(0, rv x0), (3, .int x3), (5, .int x5)]) [0, 1, 3] rfl ?_
          exact bX12_users__49 hX1 hX2 (fun σ x0 x3 x4 x5 hf => ih σ x0 x3 x4 x5 hf) hf

set_option maxRecDepth 100000 in
set_option maxHeartbeats 4000000 in
theorem wX12_users_ (l : Launch) {σ σf : St} {x0 : Nat} {x1 : Int32} {x2 : Int32} {r : Int32} (hf : fX12_users_ σ x0 x1 x2 = some (σf, r)) : Con MtX12_users_ yX12_users_ l σ [rv x0, .int x1, .int x2] σf (some (.int r)) := by
  refine Con.of (by decide +kernel) rfl (fun h => absurd (show false = true from h) (by decide)) (by simp only [sl_n, sl_r, sl_i, sl_l]; exact Nat.le_of_ble_eq_true rfl) ?_
  rw [show lv_args 0 [rv x0, .int x1, .int x2] = [(0, rv x0), (1, .int x1), (2, .int x2)] by simp only [la_n, la_r, la_i, la_l] <;> rfl]
  have hX1 : ((l, σ, σf, .inl (some (.int r))) : Xt).2.2.1 = σf := rfl
  have hX2 : ((l, σ, σf, .inl (some (.int r))) : Xt).2.2.2 = .inl (some (.int r)) := rfl
  unfold fX12_users_ at hf
  refine g_aload_n (j := 0) dX12_users__0 rfl rfl ?_
  refine g_iconst (v := 0) dX12_users__1 (by decide) ?_
  obtain ⟨σ1, eσ1, hf⟩ := ob hf
  refine g_putI dX12_users__2 eσ1 (Or.inl t_1967) hin16 hc16 (by decide) hty16 hnm16 (Or.inl rfl) rfl rfl rfl ?_
  refine g_aload_n (j := 0) dX12_users__5 rfl rfl ?_
  refine g_iload_n (j := 1) dX12_users__6 rfl rfl ?_
  refine g_iload_n (j := 2) dX12_users__7 rfl rfl ?_
  obtain ⟨_, h4, hf⟩ := ob hf
  obtain ⟨σ2, v3, eσ2, hf⟩ := cb_el hf
  refine g_callV_i dX12_users__8 (wX12_thing _ eσ2) (okX12_thing _ (by decide) (by decide)) (ckK_el h4) hc16 t_2357 t_2359 s_X12_thing rfl (Nat.le_trans (cat_le _) (Nat.le_of_ble_eq_true rfl)) rfl ?_
  refine g_istore_n (i := 3) (L' := [(3, .int v3), (0, rv x0), (1, .int x1), (2, .int x2)]) dX12_users__11 rfl (Nat.le_of_ble_eq_true rfl) rfl ?_
  refine g_iconst (v := 0) dX12_users__12 (by decide) ?_
  refine g_istore (i := 4) (L' := [(4, .int 0), (3, .int v3), (0, rv x0), (1, .int x1), (2, .int x2)]) dX12_users__13 (Nat.le_of_ble_eq_true rfl) rfl ?_
  refine g_iconst (v := 0) dX12_users__15 (by decide) ?_
  refine g_istore (i := 5) (L' := [(5, .int 0), (4, .int 0), (3, .int v3), (0, rv x0), (1, .int x1), (2, .int x2)]) dX12_users__16 (Nat.le_of_ble_eq_true rfl) rfl ?_
  refine g_sub (L' := [(0, rv x0), (3, .int v3), (4, .int 0), (5, .int 0)]) [3, 2, 1, 0] rfl ?_
  exact bX12_users__18 hX1 hX2 FU _ _ _ _ _ hf

theorem okX12_users_ (M : Mt) (h1 : 4 + 1 ≤ M.2.2.2.2.1) (h2 : 8 + (6 + 11) + 153 ≤ M.2.2.2.2.2.1) : CallOk M MtX12_users_ yX12_users_ 2 := ⟨t_2650, h1, h2, ⟨by decide, by decide⟩, by decide +kernel, t_16⟩
abbrev MtX12_drop : Mt := (cX12_drop, 6, "ExactlySaidModel", (Option.some Jvm.ClassFile.FieldType.int), 5, 176, false)
set_option maxRecDepth 100000 in
set_option maxHeartbeats 4000000 in
theorem bX12_drop_107 {X : Xt} {σf : St} {r : Int32} (hX1 : X.2.2.1 = σf) (hX2 : X.2.2.2 = .inl (some (.int r))) : ∀ (n : Nat) (σ : St) (x0 : Nat) (x4 : Int32) (x5 : Int32), fX12_drop_107 n σ x0 x4 x5 = some (σf, r) → G MtX12_drop X σ 107 [(0, rv x0), (4, .int x4), (5, .int x5)] [] := by
  intro n
  induction n with
  | zero => intro σ x0 x4 x5 hf; cases hf
  | succ n ih =>
    intro σ x0 x4 x5 hf
    rw [fX12_drop_107] at hf
    refine g_iload (j := 2) dX12_drop_107 rfl ?_
    refine g_iload (j := 1) dX12_drop_109 rfl ?_
    refine g_icmp_ge (tgt := 168) dX12_drop_111 (by decide) (fun c1 => ?_) (fun c1 => ?_)
    · rw [if_pos c1] at hf
      refine g_aload_n (j := 0) dX12_drop_168 rfl rfl ?_
      obtain ⟨_, h4, hf⟩ := ob hf
      obtain ⟨σ2, v3, eσ2, hf⟩ := cb_el hf
      refine g_callV_v dX12_drop_169 (wX12_changes _ eσ2) (okX12_changes _ (by decide) (by decide)) (ckK_el h4) hc16 t_2519 t_2521 s_X12_changes rfl (Nat.le_trans (cat_le _) (Nat.le_of_ble_eq_true rfl)) rfl ?_
      refine g_aload_n (j := 0) dX12_drop_172 rfl rfl ?_
      obtain ⟨v5, ev5, hf⟩ := ob hf
      refine g_getI dX12_drop_173 ev5 t_2007 hin16 hc16 (by decide) rfl ?_
      refine g_aload_n (j := 0) dX12_drop_176 rfl rfl ?_
      obtain ⟨v6, ev6, hf⟩ := ob hf
      refine g_getI dX12_drop_177 ev6 t_2008 hin16 hc16 (by decide) rfl ?_
      refine g_iadd dX12_drop_180 ?_
      exact g_iret dX12_drop_181 rfl rfl hX2 hX1 hf
    · rw [if_neg c1] at hf
      refine g_aload_n (j := 0) dX12_drop_114 rfl rfl ?_
      obtain ⟨v7, ev7, hf⟩ := ob hf
      refine g_getF dX12_drop_115 ev7 t_2004 hin16 hc16 (by decide) rfl ?_
      refine g_iload (j := 2) dX12_drop_118 rfl ?_
      refine g_aload_n (j := 0) dX12_drop_120 rfl rfl ?_
      obtain ⟨v8, ev8, hf⟩ := ob hf
      refine g_getF dX12_drop_121 ev8 t_2004 hin16 hc16 (by decide) rfl ?_
      refine g_iload (j := 2) dX12_drop_124 rfl ?_
      refine g_iconst (v := 1) dX12_drop_126 (by decide) ?_
      refine g_iadd dX12_drop_127 ?_
      obtain ⟨v9, ev9, hf⟩ := ob hf
      refine g_iald dX12_drop_128 ev9 ?_
      obtain ⟨σ10, eσ10, hf⟩ := ob hf
      refine g_iast dX12_drop_129 eσ10 ?_
      refine g_aload_n (j := 0) dX12_drop_130 rfl rfl ?_
      obtain ⟨v11, ev11, hf⟩ := ob hf
      refine g_getF dX12_drop_131 ev11 t_2005 hin16 hc16 (by decide) rfl ?_
      refine g_iload (j := 2) dX12_drop_134 rfl ?_
      refine g_aload_n (j := 0) dX12_drop_136 rfl rfl ?_
      obtain ⟨v12, ev12, hf⟩ := ob hf
      refine g_getF dX12_drop_137 ev12 t_2005 hin16 hc16 (by decide) rfl ?_
      refine g_iload (j := 2) dX12_drop_140 rfl ?_
      refine g_iconst (v := 1) dX12_drop_142 (by decide) ?_
      refine g_iadd dX12_drop_143 ?_
      obtain ⟨v13, ev13, hf⟩ := ob hf
      refine g_iald dX12_drop_144 ev13 ?_
      obtain ⟨σ14, eσ14, hf⟩ := ob hf
      refine g_iast dX12_drop_145 eσ14 ?_
      refine g_aload_n (j := 0) dX12_drop_146 rfl rfl ?_
      obtain ⟨v15, ev15, hf⟩ := ob hf
      refine g_getF dX12_drop_147 ev15 t_2006 hin16 hc16 (by decide) rfl ?_
      refine g_iload (j := 2) dX12_drop_150 rfl ?_
      refine g_aload_n (j := 0) dX12_drop_152 rfl rfl ?_
      obtain ⟨v16, ev16, hf⟩ := ob hf
      refine g_getF dX12_drop_153 ev16 t_2006 hin16 hc16 (by decide) rfl ?_
      refine g_iload (j := 2) dX12_drop_156 rfl ?_
      refine g_iconst (v := 1) dX12_drop_158 (by decide) ?_
      refine g_iadd dX12_drop_159 ?_
      obtain ⟨v17, ev17, hf⟩ := ob hf
      refine g_iald dX12_drop_160 ev17 ?_
      obtain ⟨σ18, eσ18, hf⟩ := ob hf
      refine g_iast dX12_drop_161 eσ18 ?_
      obtain ⟨v19, ev19, hf⟩ := nm_el hf
      refine g_iinc (L' := [(5, .int v19), (0, rv x0), (4, .int x4)]) (j := 2) (v := v19) dX12_drop_162 rfl (by rw [ev19]; rfl) (Nat.le_of_ble_eq_true rfl) rfl ?_
      refine g_goto (tgt := 107) dX12_drop_165 (by decide) ?_
      refine g_sub (L' := [(0, rv x0), (4, .int x4), (5, .int v19)]) [1, 2, 0] rfl ?_
      exact ih _ _ _ _ hf

set_option maxRecDepth 100000 in
set_option maxHeartbeats 4000000 in
theorem bX12_drop_102 {X : Xt} {σf : St} {r : Int32} (hX1 : X.2.2.1 = σf) (hX2 : X.2.2.2 = .inl (some (.int r))) {σ : St} {x0 : Nat} {x3 : Int32} {y0 : Int32} (hf : fX12_drop_102 σ x0 x3 y0 = some (σf, r)) : G MtX12_drop X σ 102 [(0, rv x0), (3, .int x3)] [.int y0] := by
  unfold fX12_drop_102 at hf
  refine g_istore (i := 4) (L' := [(4, .int y0), (0, rv x0), (3, .int x3)]) dX12_drop_102 (Nat.le_of_ble_eq_true rfl) rfl ?_
  refine g_iload_n (j := 2) dX12_drop_104 rfl rfl ?_
  refine g_istore (i := 5) (L' := [(5, .int x3), (4, .int y0), (0, rv x0), (3, .int x3)]) dX12_drop_105 (Nat.le_of_ble_eq_true rfl) rfl ?_
  refine g_sub (L' := [(0, rv x0), (4, .int y0), (5, .int x3)]) [2, 1, 0] rfl ?_
  exact bX12_drop_107 hX1 hX2 FU _ _ _ _ hf

set_option maxRecDepth 100000 in
set_option maxHeartbeats 4000000 in
theorem bX12_drop_84 {X : Xt} {σf : St} {r : Int32} (hX1 : X.2.2.1 = σf) (hX2 : X.2.2.2 = .inl (some (.int r))) {σ : St} {x0 : Nat} {x2 : Int32} {x3 : Int32} (hf : fX12_drop_84 σ x0 x2 x3 = some (σf, r)) : G MtX12_drop X σ 84 [(0, rv x0), (2, .int x2), (3, .int x3)] [] := by
  unfold fX12_drop_84 at hf
  refine g_iload_n (j := 1) dX12_drop_84 rfl rfl ?_
  refine g_if_eq (tgt := 98) dX12_drop_85 (by decide) (fun c1 => ?_) (fun c1 => ?_)
  · rw [if_pos c1] at hf
    refine g_aload_n (j := 0) dX12_drop_98 rfl rfl ?_
    obtain ⟨v2, ev2, hf⟩ := ob hf
    refine g_getI dX12_drop_99 ev2 t_2007 hin16 hc16 (by decide) rfl ?_
    refine g_sub (L' := [(0, rv x0), (3, .int x3)]) [0, 2] rfl ?_
    exact bX12_drop_102 hX1 hX2 hf
  · rw [if_neg c1] at hf
    refine g_bipush (v := 20) dX12_drop_88 (by decide) ?_
    refine g_aload_n (j := 0) dX12_drop_90 rfl rfl ?_
    obtain ⟨v3, ev3, hf⟩ := ob hf
    refine g_getI dX12_drop_91 ev3 t_2008 hin16 hc16 (by decide) rfl ?_
    refine g_iadd dX12_drop_94 ?_
    refine g_goto (tgt := 102) dX12_drop_95 (by decide) ?_
    refine g_sub (L' := [(0, rv x0), (3, .int x3)]) [0, 2] rfl ?_
    exact bX12_drop_102 hX1 hX2 hf

set_option maxRecDepth 100000 in
set_option maxHeartbeats 4000000 in
theorem bX12_drop_44 {X : Xt} {σf : St} {r : Int32} (hX1 : X.2.2.1 = σf) (hX2 : X.2.2.2 = .inl (some (.int r))) {σ : St} {x0 : Nat} {x2 : Int32} {x3 : Int32} {y0 : Nat} {y1 : Int32} (hf : fX12_drop_44 σ x0 x2 x3 y0 y1 = some (σf, r)) : G MtX12_drop X σ 44 [(0, rv x0), (2, .int x2), (3, .int x3)] [.int y1, rv y0] := by
  unfold fX12_drop_44 at hf
  refine g_iconst (v := 2) dX12_drop_44 (by decide) ?_
  obtain ⟨_, h3, hf⟩ := ob hf
  obtain ⟨σ1, v2, eσ1, hf⟩ := cb_el hf
  refine g_callV_i dX12_drop_45 (wX12_fails _ eσ1) (okX12_fails _ (by decide) (by decide)) (ckK_el h3) hc16 t_2225 t_2227 s_X12_fails rfl (Nat.le_trans (cat_le _) (Nat.le_of_ble_eq_true rfl)) rfl ?_
  refine g_if_eq (tgt := 53) dX12_drop_48 (by decide) (fun c4 => ?_) (fun c4 => ?_)
  · rw [if_pos c4] at hf
    refine g_aload_n (j := 0) dX12_drop_53 rfl rfl ?_
    obtain ⟨_, h7, hf⟩ := ob hf
    obtain ⟨σ5, v6, eσ5, hf⟩ := cb_el hf
    refine g_callV_v dX12_drop_54 (wX12_saves _ eσ5) (okX12_saves _ (by decide) (by decide)) (ckK_el h7) hc16 t_2491 t_2493 s_X12_saves rfl (Nat.le_trans (cat_le _) (Nat.le_of_ble_eq_true rfl)) rfl ?_
    refine g_iload_n (j := 1) dX12_drop_57 rfl rfl ?_
    refine g_if_eq (tgt := 74) dX12_drop_58 (by decide) (fun c8 => ?_) (fun c8 => ?_)
    · rw [if_pos c8] at hf
      refine g_aload_n (j := 0) dX12_drop_74 rfl rfl ?_
      refine g_dup dX12_drop_75 (rv_cat _) ?_
      obtain ⟨v9, ev9, hf⟩ := ob hf
      refine g_getI dX12_drop_76 ev9 t_2007 hin16 hc16 (by decide) rfl ?_
      refine g_iconst (v := 1) dX12_drop_79 (by decide) ?_
      refine g_isub dX12_drop_80 ?_
      obtain ⟨σ10, eσ10, hf⟩ := ob hf
      refine g_putI dX12_drop_81 eσ10 (Or.inl t_2007) hin16 hc16 (by decide) hty16 hnm16 (Or.inl rfl) rfl rfl rfl ?_
      exact bX12_drop_84 hX1 hX2 hf
    · rw [if_neg c8] at hf
      refine g_aload_n (j := 0) dX12_drop_61 rfl rfl ?_
      refine g_dup dX12_drop_62 (rv_cat _) ?_
      obtain ⟨v11, ev11, hf⟩ := ob hf
      refine g_getI dX12_drop_63 ev11 t_2008 hin16 hc16 (by decide) rfl ?_
      refine g_iconst (v := 1) dX12_drop_66 (by decide) ?_
      refine g_isub dX12_drop_67 ?_
      obtain ⟨σ12, eσ12, hf⟩ := ob hf
      refine g_putI dX12_drop_68 eσ12 (Or.inl t_2008) hin16 hc16 (by decide) hty16 hnm16 (Or.inl rfl) rfl rfl rfl ?_
      refine g_goto (tgt := 84) dX12_drop_71 (by decide) ?_
      exact bX12_drop_84 hX1 hX2 hf
  · rw [if_neg c4] at hf
    refine g_iconst (v := 0) dX12_drop_51 (by decide) ?_
    exact g_iret dX12_drop_52 rfl rfl hX2 hX1 hf

set_option maxRecDepth 100000 in
set_option maxHeartbeats 4000000 in
theorem bX12_drop_23 {X : Xt} {σf : St} {r : Int32} (hX1 : X.2.2.1 = σf) (hX2 : X.2.2.2 = .inl (some (.int r))) {σ : St} {x0 : Nat} {x2 : Int32} {x3 : Int32} {y0 : Nat} {y1 : Int32} (hf : fX12_drop_23 σ x0 x2 x3 y0 y1 = some (σf, r)) : G MtX12_drop X σ 23 [(0, rv x0), (2, .int x2), (3, .int x3)] [.int y1, rv y0] := by
  unfold fX12_drop_23 at hf
  refine g_iconst (v := 1) dX12_drop_23 (by decide) ?_
  obtain ⟨_, h3, hf⟩ := ob hf
  obtain ⟨σ1, v2, eσ1, hf⟩ := cb_el hf
  refine g_callV_i dX12_drop_24 (wX12_fails _ eσ1) (okX12_fails _ (by decide) (by decide)) (ckK_el h3) hc16 t_2225 t_2227 s_X12_fails rfl (Nat.le_trans (cat_le _) (Nat.le_of_ble_eq_true rfl)) rfl ?_
  refine g_if_ne (tgt := 51) dX12_drop_27 (by decide) (fun c4 => ?_) (fun c4 => ?_)
  · rw [if_neg c4] at hf
    refine g_iconst (v := 0) dX12_drop_51 (by decide) ?_
    exact g_iret dX12_drop_52 rfl rfl hX2 hX1 hf
  · rw [if_pos c4] at hf
    refine g_aload_n (j := 0) dX12_drop_30 rfl rfl ?_
    refine g_aload_n (j := 0) dX12_drop_31 rfl rfl ?_
    refine g_iload_n (j := 2) dX12_drop_32 rfl rfl ?_
    obtain ⟨_, h7, hf⟩ := ob hf
    obtain ⟨σ5, v6, eσ5, hf⟩ := cb_el hf
    refine g_callV_i dX12_drop_33 (wX12_users _ eσ5) (okX12_users _ (by decide) (by decide)) (ckK_el h7) hc16 t_2375 t_2377 s_X12_users rfl (Nat.le_trans (cat_le _) (Nat.le_of_ble_eq_true rfl)) rfl ?_
    refine g_if_ne (tgt := 43) dX12_drop_36 (by decide) (fun c8 => ?_) (fun c8 => ?_)
    · rw [if_neg c8] at hf
      refine g_iconst (v := 0) dX12_drop_43 (by decide) ?_
      exact bX12_drop_44 hX1 hX2 hf
    · rw [if_pos c8] at hf
      refine g_iconst (v := 1) dX12_drop_39 (by decide) ?_
      refine g_goto (tgt := 44) dX12_drop_40 (by decide) ?_
      exact bX12_drop_44 hX1 hX2 hf

set_option maxRecDepth 100000 in
set_option maxHeartbeats 4000000 in
theorem wX12_drop (l : Launch) {σ σf : St} {x0 : Nat} {x1 : Int32} {x2 : Int32} {r : Int32} (hf : fX12_drop σ x0 x1 x2 = some (σf, r)) : Con MtX12_drop yX12_drop l σ [rv x0, .int x1, .int x2] σf (some (.int r)) := by
  refine Con.of (by decide +kernel) rfl (fun h => absurd (show false = true from h) (by decide)) (by simp only [sl_n, sl_r, sl_i, sl_l]; exact Nat.le_of_ble_eq_true rfl) ?_
  rw [show lv_args 0 [rv x0, .int x1, .int x2] = [(0, rv x0), (1, .int x1), (2, .int x2)] by simp only [la_n, la_r, la_i, la_l] <;> rfl]
  have hX1 : ((l, σ, σf, .inl (some (.int r))) : Xt).2.2.1 = σf := rfl
  have hX2 : ((l, σ, σf, .inl (some (.int r))) : Xt).2.2.2 = .inl (some (.int r)) := rfl
  unfold fX12_drop at hf
  refine g_aload_n (j := 0) dX12_drop_0 rfl rfl ?_
  refine g_iconst (v := 0) dX12_drop_1 (by decide) ?_
  obtain ⟨σ1, eσ1, hf⟩ := ob hf
  refine g_putI dX12_drop_2 eσ1 (Or.inl t_1967) hin16 hc16 (by decide) hty16 hnm16 (Or.inl rfl) rfl rfl rfl ?_
  refine g_aload_n (j := 0) dX12_drop_5 rfl rfl ?_
  refine g_iload_n (j := 1) dX12_drop_6 rfl rfl ?_
  refine g_iload_n (j := 2) dX12_drop_7 rfl rfl ?_
  obtain ⟨_, h4, hf⟩ := ob hf
  obtain ⟨σ2, v3, eσ2, hf⟩ := cb_el hf
  refine g_callV_i dX12_drop_8 (wX12_thing _ eσ2) (okX12_thing _ (by decide) (by decide)) (ckK_el h4) hc16 t_2357 t_2359 s_X12_thing rfl (Nat.le_trans (cat_le _) (Nat.le_of_ble_eq_true rfl)) rfl ?_
  refine g_istore_n (i := 3) (L' := [(3, .int v3), (0, rv x0), (1, .int x1), (2, .int x2)]) dX12_drop_11 rfl (Nat.le_of_ble_eq_true rfl) rfl ?_
  refine g_aload_n (j := 1) dX12_drop_12 rfl rfl ?_
  refine g_iload_n (j := 0) dX12_drop_13 rfl rfl ?_
  refine g_iconst (v := (-1)) dX12_drop_14 (by decide) ?_
  refine g_icmp_eq (tgt := 22) dX12_drop_15 (by decide) (fun c5 => ?_) (fun c5 => ?_)
  · rw [if_pos c5] at hf
    refine g_iconst (v := 0) dX12_drop_22 (by decide) ?_
    refine g_sub (L' := [(0, rv x0), (2, .int x2), (3, .int v3)]) [1, 3, 0] rfl ?_
    exact bX12_drop_23 hX1 hX2 hf
  · rw [if_neg c5] at hf
    refine g_iconst (v := 1) dX12_drop_18 (by decide) ?_
    refine g_goto (tgt := 23) dX12_drop_19 (by decide) ?_
    refine g_sub (L' := [(0, rv x0), (2, .int x2), (3, .int v3)]) [1, 3, 0] rfl ?_
    exact bX12_drop_23 hX1 hX2 hf

theorem okX12_drop (M : Mt) (h1 : 5 + 1 ≤ M.2.2.2.2.1) (h2 : 8 + (6 + 11) + 176 ≤ M.2.2.2.2.2.1) : CallOk M MtX12_drop yX12_drop 2 := ⟨t_2654, h1, h2, ⟨by decide, by decide⟩, by decide +kernel, t_16⟩
abbrev MtX12_steps : Mt := (cX12_steps, 1, "ExactlySaidModel", (Option.some Jvm.ClassFile.FieldType.int), 1, 84, false)
set_option maxRecDepth 100000 in
set_option maxHeartbeats 4000000 in
theorem wX12_steps (l : Launch) {σ σf : St} {x0 : Nat} {r : Int32} (hf : fX12_steps σ x0 = some (σf, r)) : Con MtX12_steps yX12_steps l σ [rv x0] σf (some (.int r)) := by
  refine Con.of (by decide +kernel) rfl (fun h => absurd (show false = true from h) (by decide)) (by simp only [sl_n, sl_r, sl_i, sl_l]; exact Nat.le_of_ble_eq_true rfl) ?_
  rw [show lv_args 0 [rv x0] = [(0, rv x0)] by simp only [la_n, la_r, la_i, la_l] <;> rfl]
  have hX1 : ((l, σ, σf, .inl (some (.int r))) : Xt).2.2.1 = σf := rfl
  have hX2 : ((l, σ, σf, .inl (some (.int r))) : Xt).2.2.2 = .inl (some (.int r)) := rfl
  unfold fX12_steps at hf
  refine g_aload_n (j := 0) dX12_steps_0 rfl rfl ?_
  refine g_iconst (v := 0) dX12_steps_1 (by decide) ?_
  obtain ⟨σ1, eσ1, hf⟩ := ob hf
  refine g_putI dX12_steps_2 eσ1 (Or.inl t_1967) hin16 hc16 (by decide) hty16 hnm16 (Or.inl rfl) rfl rfl rfl ?_
  refine g_aload_n (j := 0) dX12_steps_5 rfl rfl ?_
  obtain ⟨v2, ev2, hf⟩ := ob hf
  refine g_getI dX12_steps_6 ev2 t_2023 hin16 hc16 (by decide) rfl ?_
  exact g_iret dX12_steps_9 rfl rfl hX2 hX1 hf

theorem okX12_steps (M : Mt) (h1 : 1 + 1 ≤ M.2.2.2.2.1) (h2 : 8 + (1 + 11) + 84 ≤ M.2.2.2.2.2.1) : CallOk M MtX12_steps yX12_steps 0 := ⟨t_2658, h1, h2, ⟨by decide, by decide⟩, by decide +kernel, t_16⟩
abbrev MtX12_noStep : Mt := (cX12_noStep, 2, "ExactlySaidModel", (Option.some Jvm.ClassFile.FieldType.boolean), 2, 106, false)
set_option maxRecDepth 100000 in
set_option maxHeartbeats 4000000 in
theorem wX12_noStep (l : Launch) {σ σf : St} {x0 : Nat} {x1 : Int32} {r : Int32} (hf : fX12_noStep σ x0 x1 = some (σf, r)) : Con MtX12_noStep yX12_noStep l σ [rv x0, .int x1] σf (some (.int r)) := by
  refine Con.of (by decide +kernel) rfl (fun h => absurd (show false = true from h) (by decide)) (by simp only [sl_n, sl_r, sl_i, sl_l]; exact Nat.le_of_ble_eq_true rfl) ?_
  rw [show lv_args 0 [rv x0, .int x1] = [(0, rv x0), (1, .int x1)] by simp only [la_n, la_r, la_i, la_l] <;> rfl]
  have hX1 : ((l, σ, σf, .inl (some (.int r))) : Xt).2.2.1 = σf := rfl
  have hX2 : ((l, σ, σf, .inl (some (.int r))) : Xt).2.2.2 = .inl (some (.int r)) := rfl
  unfold fX12_noStep at hf
  refine g_aload_n (j := 0) dX12_noStep_0 rfl rfl ?_
  refine g_iload_n (j := 1) dX12_noStep_1 rfl rfl ?_
  refine g_iconst (v := 0) dX12_noStep_2 (by decide) ?_
  refine g_aload_n (j := 0) dX12_noStep_3 rfl rfl ?_
  obtain ⟨v1, ev1, hf⟩ := ob hf
  refine g_getI dX12_noStep_4 ev1 t_2023 hin16 hc16 (by decide) rfl ?_
  refine g_iconst (v := 1) dX12_noStep_7 (by decide) ?_
  refine g_isub dX12_noStep_8 ?_
  obtain ⟨σ2, v3, eσ2, hf⟩ := cb_el hf
  refine g_callS_i dX12_noStep_9 (wX12_in _ eσ2) (okX12_in _ (by decide) (by decide)) t_2257 t_2258 rfl (Nat.le_trans (cat_le _) (Nat.le_of_ble_eq_true rfl)) rfl ?_
  refine g_iconst (v := 1) dX12_noStep_12 (by decide) ?_
  obtain ⟨_, h6, hf⟩ := ob hf
  obtain ⟨σ4, v5, eσ4, hf⟩ := cb_el hf
  refine g_callV_i dX12_noStep_13 (wX12_fails _ eσ4) (okX12_fails _ (by decide) (by decide)) (ckK_el h6) hc16 t_2225 t_2227 s_X12_fails rfl (Nat.le_trans (cat_le _) (Nat.le_of_ble_eq_true rfl)) rfl ?_
  obtain ⟨_, h7, hf⟩ := ob hf
  exact g_iret dX12_noStep_16 rfl (ckZ_el h7) hX2 hX1 hf

theorem okX12_noStep (M : Mt) (h1 : 2 + 1 ≤ M.2.2.2.2.1) (h2 : 8 + (2 + 11) + 106 ≤ M.2.2.2.2.2.1) : CallOk M MtX12_noStep yX12_noStep 1 := ⟨t_2666, h1, h2, ⟨by decide, by decide⟩, by decide +kernel, t_16⟩
abbrev MtX12_stepAt : Mt := (cX12_stepAt, 2, "ExactlySaidModel", (Option.some Jvm.ClassFile.FieldType.int), 3, 127, false)
set_option maxRecDepth 100000 in
set_option maxHeartbeats 4000000 in
theorem wX12_stepAt (l : Launch) {σ σf : St} {x0 : Nat} {x1 : Int32} {r : Int32} (hf : fX12_stepAt σ x0 x1 = some (σf, r)) : Con MtX12_stepAt yX12_stepAt l σ [rv x0, .int x1] σf (some (.int r)) := by
  refine Con.of (by decide +kernel) rfl (fun h => absurd (show false = true from h) (by decide)) (by simp only [sl_n, sl_r, sl_i, sl_l]; exact Nat.le_of_ble_eq_true rfl) ?_
  rw [show lv_args 0 [rv x0, .int x1] = [(0, rv x0), (1, .int x1)] by simp only [la_n, la_r, la_i, la_l] <;> rfl]
  have hX1 : ((l, σ, σf, .inl (some (.int r))) : Xt).2.2.1 = σf := rfl
  have hX2 : ((l, σ, σf, .inl (some (.int r))) : Xt).2.2.2 = .inl (some (.int r)) := rfl
  unfold fX12_stepAt at hf
  refine g_aload_n (j := 0) dX12_stepAt_0 rfl rfl ?_
  refine g_iconst (v := 0) dX12_stepAt_1 (by decide) ?_
  obtain ⟨σ1, eσ1, hf⟩ := ob hf
  refine g_putI dX12_stepAt_2 eσ1 (Or.inl t_1967) hin16 hc16 (by decide) hty16 hnm16 (Or.inl rfl) rfl rfl rfl ?_
  refine g_aload_n (j := 0) dX12_stepAt_5 rfl rfl ?_
  refine g_iload_n (j := 1) dX12_stepAt_6 rfl rfl ?_
  obtain ⟨_, h4, hf⟩ := ob hf
  obtain ⟨σ2, v3, eσ2, hf⟩ := cb_el hf
  refine g_callV_i dX12_stepAt_7 (wX12_noStep _ eσ2) (okX12_noStep _ (by decide) (by decide)) (ckK_el h4) hc16 t_2663 t_2665 s_X12_noStep rfl (Nat.le_trans (cat_le _) (Nat.le_of_ble_eq_true rfl)) rfl ?_
  refine g_if_eq (tgt := 17) dX12_stepAt_10 (by decide) (fun c5 => ?_) (fun c5 => ?_)
  · rw [if_pos c5] at hf
    refine g_aload_n (j := 0) dX12_stepAt_17 rfl rfl ?_
    obtain ⟨v6, ev6, hf⟩ := ob hf
    refine g_getF dX12_stepAt_18 ev6 t_2017 hin16 hc16 (by decide) rfl ?_
    refine g_iload_n (j := 1) dX12_stepAt_21 rfl rfl ?_
    obtain ⟨v7, ev7, hf⟩ := ob hf
    refine g_iald dX12_stepAt_22 ev7 ?_
    exact g_iret dX12_stepAt_23 rfl rfl hX2 hX1 hf
  · rw [if_neg c5] at hf
    refine g_iconst (v := 0) dX12_stepAt_13 (by decide) ?_
    refine g_goto (tgt := 23) dX12_stepAt_14 (by decide) ?_
    exact g_iret dX12_stepAt_23 rfl rfl hX2 hX1 hf

theorem okX12_stepAt (M : Mt) (h1 : 3 + 1 ≤ M.2.2.2.2.1) (h2 : 8 + (2 + 11) + 127 ≤ M.2.2.2.2.2.1) : CallOk M MtX12_stepAt yX12_stepAt 1 := ⟨t_2662, h1, h2, ⟨by decide, by decide⟩, by decide +kernel, t_16⟩
abbrev MtX12_takeStep : Mt := (cX12_takeStep, 2, "ExactlySaidModel", (Option.some Jvm.ClassFile.FieldType.int), 4, 150, false)
set_option maxRecDepth 100000 in
set_option maxHeartbeats 4000000 in
theorem wX12_takeStep (l : Launch) {σ σf : St} {x0 : Nat} {x1 : Int32} {r : Int32} (hf : fX12_takeStep σ x0 x1 = some (σf, r)) : Con MtX12_takeStep yX12_takeStep l σ [rv x0, .int x1] σf (some (.int r)) := by
  refine Con.of (by decide +kernel) rfl (fun h => absurd (show false = true from h) (by decide)) (by simp only [sl_n, sl_r, sl_i, sl_l]; exact Nat.le_of_ble_eq_true rfl) ?_
  rw [show lv_args 0 [rv x0, .int x1] = [(0, rv x0), (1, .int x1)] by simp only [la_n, la_r, la_i, la_l] <;> rfl]
  have hX1 : ((l, σ, σf, .inl (some (.int r))) : Xt).2.2.1 = σf := rfl
  have hX2 : ((l, σ, σf, .inl (some (.int r))) : Xt).2.2.2 = .inl (some (.int r)) := rfl
  unfold fX12_takeStep at hf
  refine g_aload_n (j := 0) dX12_takeStep_0 rfl rfl ?_
  refine g_iconst (v := 0) dX12_takeStep_1 (by decide) ?_
  obtain ⟨σ1, eσ1, hf⟩ := ob hf
  refine g_putI dX12_takeStep_2 eσ1 (Or.inl t_1967) hin16 hc16 (by decide) hty16 hnm16 (Or.inl rfl) rfl rfl rfl ?_
  refine g_aload_n (j := 0) dX12_takeStep_5 rfl rfl ?_
  refine g_iload_n (j := 1) dX12_takeStep_6 rfl rfl ?_
  obtain ⟨_, h4, hf⟩ := ob hf
  obtain ⟨σ2, v3, eσ2, hf⟩ := cb_el hf
  refine g_callV_i dX12_takeStep_7 (wX12_noStep _ eσ2) (okX12_noStep _ (by decide) (by decide)) (ckK_el h4) hc16 t_2663 t_2665 s_X12_noStep rfl (Nat.le_trans (cat_le _) (Nat.le_of_ble_eq_true rfl)) rfl ?_
  refine g_if_eq (tgt := 17) dX12_takeStep_10 (by decide) (fun c5 => ?_) (fun c5 => ?_)
  · rw [if_pos c5] at hf
    refine g_aload_n (j := 0) dX12_takeStep_17 rfl rfl ?_
    refine g_sipush (v := 200) dX12_takeStep_18 (by decide) ?_
    refine g_iload_n (j := 1) dX12_takeStep_21 rfl rfl ?_
    refine g_iadd dX12_takeStep_22 ?_
    obtain ⟨_, h8, hf⟩ := ob hf
    obtain ⟨σ6, v7, eσ6, hf⟩ := cb_el hf
    refine g_callV_i dX12_takeStep_23 (wX12_becomes _ eσ6) (okX12_becomes _ (by decide) (by decide)) (ckK_el h8) hc16 t_2615 t_2617 s_X12_becomes rfl (Nat.le_trans (cat_le _) (Nat.le_of_ble_eq_true rfl)) rfl ?_
    exact g_iret dX12_takeStep_26 rfl rfl hX2 hX1 hf
  · rw [if_neg c5] at hf
    refine g_iconst (v := 0) dX12_takeStep_13 (by decide) ?_
    refine g_goto (tgt := 26) dX12_takeStep_14 (by decide) ?_
    exact g_iret dX12_takeStep_26 rfl rfl hX2 hX1 hf

theorem okX12_takeStep (M : Mt) (h1 : 4 + 1 ≤ M.2.2.2.2.1) (h2 : 8 + (2 + 11) + 150 ≤ M.2.2.2.2.2.1) : CallOk M MtX12_takeStep yX12_takeStep 1 := ⟨t_2670, h1, h2, ⟨by decide, by decide⟩, by decide +kernel, t_16⟩
abbrev MtX12_ends : Mt := (cX12_ends, 2, "ExactlySaidModel", (Option.some Jvm.ClassFile.FieldType.boolean), 4, 153, false)
set_option maxRecDepth 100000 in
set_option maxHeartbeats 4000000 in
theorem wX12_ends (l : Launch) {σ σf : St} {x0 : Nat} {r : Int32} (hf : fX12_ends σ x0 = some (σf, r)) : Con MtX12_ends yX12_ends l σ [rv x0] σf (some (.int r)) := by
  refine Con.of (by decide +kernel) rfl (fun h => absurd (show false = true from h) (by decide)) (by simp only [sl_n, sl_r, sl_i, sl_l]; exact Nat.le_of_ble_eq_true rfl) ?_
  rw [show lv_args 0 [rv x0] = [(0, rv x0)] by simp only [la_n, la_r, la_i, la_l] <;> rfl]
  have hX1 : ((l, σ, σf, .inl (some (.int r))) : Xt).2.2.1 = σf := rfl
  have hX2 : ((l, σ, σf, .inl (some (.int r))) : Xt).2.2.2 = .inl (some (.int r)) := rfl
  unfold fX12_ends at hf
  refine g_aload_n (j := 0) dX12_ends_0 rfl rfl ?_
  refine g_iconst (v := 0) dX12_ends_1 (by decide) ?_
  obtain ⟨σ1, eσ1, hf⟩ := ob hf
  refine g_putI dX12_ends_2 eσ1 (Or.inl t_1967) hin16 hc16 (by decide) hty16 hnm16 (Or.inl rfl) rfl rfl rfl ?_
  refine g_aload_n (j := 0) dX12_ends_5 rfl rfl ?_
  obtain ⟨_, h4, hf⟩ := ob hf
  obtain ⟨σ2, v3, eσ2, hf⟩ := cb_el hf
  refine g_callV_i dX12_ends_6 (wX12_aheadLength _ eσ2) (okX12_aheadLength _ (by decide) (by decide)) (ckK_el h4) hc16 t_2579 t_2581 s_X12_aheadLength rfl (Nat.le_trans (cat_le _) (Nat.le_of_ble_eq_true rfl)) rfl ?_
  refine g_istore_n (i := 1) (L' := [(1, .int v3), (0, rv x0)]) dX12_ends_9 rfl (Nat.le_of_ble_eq_true rfl) (by simp [rv_cat]) ?_
  refine g_aload_n (j := 1) dX12_ends_10 rfl rfl ?_
  refine g_bipush (v := 14) dX12_ends_11 (by decide) ?_
  obtain ⟨_, h7, hf⟩ := ob hf
  obtain ⟨σ5, v6, eσ5, hf⟩ := cb_el hf
  refine g_callV_i dX12_ends_13 (wX12_isOne _ eσ5) (okX12_isOne _ (by decide) (by decide)) (ckK_el h7) hc16 t_2587 t_2589 s_X12_isOne rfl (Nat.le_trans (cat_le _) (Nat.le_of_ble_eq_true rfl)) rfl ?_
  obtain ⟨_, h8, hf⟩ := ob hf
  exact g_iret dX12_ends_16 rfl (ckZ_el h8) hX2 hX1 hf

theorem okX12_ends (M : Mt) (h1 : 4 + 1 ≤ M.2.2.2.2.1) (h2 : 8 + (2 + 11) + 153 ≤ M.2.2.2.2.2.1) : CallOk M MtX12_ends yX12_ends 0 := ⟨t_2674, h1, h2, ⟨by decide, by decide⟩, by decide +kernel, t_16⟩
abbrev MtX12_ahead : Mt := (cX12_ahead, 1, "ExactlySaidModel", (Option.some Jvm.ClassFile.FieldType.int), 4, 153, false)
set_option maxRecDepth 100000 in
set_option maxHeartbeats 4000000 in
theorem wX12_ahead (l : Launch) {σ σf : St} {x0 : Nat} {r : Int32} (hf : fX12_ahead σ x0 = some (σf, r)) : Con MtX12_ahead yX12_ahead l σ [rv x0] σf (some (.int r)) := by
  refine Con.of (by decide +kernel) rfl (fun h => absurd (show false = true from h) (by decide)) (by simp only [sl_n, sl_r, sl_i, sl_l]; exact Nat.le_of_ble_eq_true rfl) ?_
  rw [show lv_args 0 [rv x0] = [(0, rv x0)] by simp only [la_n, la_r, la_i, la_l] <;> rfl]
  have hX1 : ((l, σ, σf, .inl (some (.int r))) : Xt).2.2.1 = σf := rfl
  have hX2 : ((l, σ, σf, .inl (some (.int r))) : Xt).2.2.2 = .inl (some (.int r)) := rfl
  unfold fX12_ahead at hf
  refine g_aload_n (j := 0) dX12_ahead_0 rfl rfl ?_
  refine g_iconst (v := 0) dX12_ahead_1 (by decide) ?_
  obtain ⟨σ1, eσ1, hf⟩ := ob hf
  refine g_putI dX12_ahead_2 eσ1 (Or.inl t_1967) hin16 hc16 (by decide) hty16 hnm16 (Or.inl rfl) rfl rfl rfl ?_
  refine g_aload_n (j := 0) dX12_ahead_5 rfl rfl ?_
  obtain ⟨_, h4, hf⟩ := ob hf
  obtain ⟨σ2, v3, eσ2, hf⟩ := cb_el hf
  refine g_callV_i dX12_ahead_6 (wX12_aheadLength _ eσ2) (okX12_aheadLength _ (by decide) (by decide)) (ckK_el h4) hc16 t_2579 t_2581 s_X12_aheadLength rfl (Nat.le_trans (cat_le _) (Nat.le_of_ble_eq_true rfl)) rfl ?_
  exact g_iret dX12_ahead_9 rfl rfl hX2 hX1 hf

theorem okX12_ahead (M : Mt) (h1 : 4 + 1 ≤ M.2.2.2.2.1) (h2 : 8 + (1 + 11) + 153 ≤ M.2.2.2.2.2.1) : CallOk M MtX12_ahead yX12_ahead 0 := ⟨t_2678, h1, h2, ⟨by decide, by decide⟩, by decide +kernel, t_16⟩
abbrev MtX12_repeating : Mt := (cX12_repeating, 1, "ExactlySaidModel", (Option.some Jvm.ClassFile.FieldType.int), 5, 190, false)
set_option maxRecDepth 100000 in
set_option maxHeartbeats 4000000 in
theorem wX12_repeating (l : Launch) {σ σf : St} {x0 : Nat} {r : Int32} (hf : fX12_repeating σ x0 = some (σf, r)) : Con MtX12_repeating yX12_repeating l σ [rv x0] σf (some (.int r)) := by
  refine Con.of (by decide +kernel) rfl (fun h => absurd (show false = true from h) (by decide)) (by simp only [sl_n, sl_r, sl_i, sl_l]; exact Nat.le_of_ble_eq_true rfl) ?_
  rw [show lv_args 0 [rv x0] = [(0, rv x0)] by simp only [la_n, la_r, la_i, la_l] <;> rfl]
  have hX1 : ((l, σ, σf, .inl (some (.int r))) : Xt).2.2.1 = σf := rfl
  have hX2 : ((l, σ, σf, .inl (some (.int r))) : Xt).2.2.2 = .inl (some (.int r)) := rfl
  unfold fX12_repeating at hf
  refine g_aload_n (j := 0) dX12_repeating_0 rfl rfl ?_
  refine g_iconst (v := 0) dX12_repeating_1 (by decide) ?_
  obtain ⟨σ1, eσ1, hf⟩ := ob hf
  refine g_putI dX12_repeating_2 eσ1 (Or.inl t_1967) hin16 hc16 (by decide) hty16 hnm16 (Or.inl rfl) rfl rfl rfl ?_
  refine g_aload_n (j := 0) dX12_repeating_5 rfl rfl ?_
  obtain ⟨_, h4, hf⟩ := ob hf
  obtain ⟨σ2, v3, eσ2, hf⟩ := cb_el hf
  refine g_callV_i dX12_repeating_6 (wX12_repeats _ eσ2) (okX12_repeats _ (by decide) (by decide)) (ckK_el h4) hc16 t_2583 t_2585 s_X12_repeats rfl (Nat.le_trans (cat_le _) (Nat.le_of_ble_eq_true rfl)) rfl ?_
  exact g_iret dX12_repeating_9 rfl rfl hX2 hX1 hf

theorem okX12_repeating (M : Mt) (h1 : 5 + 1 ≤ M.2.2.2.2.1) (h2 : 8 + (1 + 11) + 190 ≤ M.2.2.2.2.2.1) : CallOk M MtX12_repeating yX12_repeating 0 := ⟨t_2682, h1, h2, ⟨by decide, by decide⟩, by decide +kernel, t_16⟩
abbrev MtX12_decimal : Mt := (cX12_decimal, 4, "ExactlySaidModel", (Option.some Jvm.ClassFile.FieldType.int), 5, 188, false)
set_option maxRecDepth 100000 in
set_option maxHeartbeats 4000000 in
theorem bX12_decimal_61 {X : Xt} {σf : St} {r : Int32} (hX1 : X.2.2.1 = σf) (hX2 : X.2.2.2 = .inl (some (.int r))) : ∀ (n : Nat) (σ : St) (x0 : Nat) (x1 : Int32) (x2 : Int32) (x3 : Int32), fX12_decimal_61 n σ x0 x1 x2 x3 = some (σf, r) → G MtX12_decimal X σ 61 [(0, rv x0), (1, .int x1), (2, .int x2), (3, .int x3)] [] := by
  intro n
  induction n with
  | zero => intro σ x0 x1 x2 x3 hf; cases hf
  | succ n ih =>
    intro σ x0 x1 x2 x3 hf
    rw [fX12_decimal_61] at hf
    refine g_iload_n (j := 3) dX12_decimal_61 rfl rfl ?_
    refine g_iload_n (j := 1) dX12_decimal_62 rfl rfl ?_
    refine g_icmp_ge (tgt := 77) dX12_decimal_63 (by decide) (fun c1 => ?_) (fun c1 => ?_)
    · rw [if_pos c1] at hf
      refine g_iload_n (j := 2) dX12_decimal_77 rfl rfl ?_
      exact g_iret dX12_decimal_78 rfl rfl hX2 hX1 hf
    · rw [if_neg c1] at hf
      refine g_aload_n (j := 0) dX12_decimal_66 rfl rfl ?_
      obtain ⟨_, h4, hf⟩ := ob hf
      obtain ⟨σ2, v3, eσ2, hf⟩ := cb_el hf
      refine g_callV_i dX12_decimal_67 (wX12_nextDecimal _ eσ2) (okX12_nextDecimal _ (by decide) (by decide)) (ckK_el h4) hc16 t_2595 t_2597 s_X12_nextDecimal rfl (Nat.le_trans (cat_le _) (Nat.le_of_ble_eq_true rfl)) rfl ?_
      refine g_istore_n (i := 2) (L' := [(2, .int v3), (0, rv x0), (1, .int x1), (3, .int x3)]) dX12_decimal_70 rfl (Nat.le_of_ble_eq_true rfl) rfl ?_
      obtain ⟨v5, ev5, hf⟩ := nm_el hf
      refine g_iinc (L' := [(3, .int v5), (2, .int v3), (0, rv x0), (1, .int x1)]) (j := 3) (v := v5) dX12_decimal_71 rfl (by rw [ev5]; rfl) (Nat.le_of_ble_eq_true rfl) rfl ?_
      refine g_goto (tgt := 61) dX12_decimal_74 (by decide) ?_
      refine g_sub (L' := [(0, rv x0), (1, .int x1), (2, .int v3), (3, .int v5)]) [2, 3, 1, 0] rfl ?_
      exact ih _ _ _ _ _ hf

set_option maxRecDepth 100000 in
set_option maxHeartbeats 4000000 in
theorem wX12_decimal (l : Launch) {σ σf : St} {x0 : Nat} {x1 : Int32} {r : Int32} (hf : fX12_decimal σ x0 x1 = some (σf, r)) : Con MtX12_decimal yX12_decimal l σ [rv x0, .int x1] σf (some (.int r)) := by
  refine Con.of (by decide +kernel) rfl (fun h => absurd (show false = true from h) (by decide)) (by simp only [sl_n, sl_r, sl_i, sl_l]; exact Nat.le_of_ble_eq_true rfl) ?_
  rw [show lv_args 0 [rv x0, .int x1] = [(0, rv x0), (1, .int x1)] by simp only [la_n, la_r, la_i, la_l] <;> rfl]
  have hX1 : ((l, σ, σf, .inl (some (.int r))) : Xt).2.2.1 = σf := rfl
  have hX2 : ((l, σ, σf, .inl (some (.int r))) : Xt).2.2.2 = .inl (some (.int r)) := rfl
  unfold fX12_decimal at hf
  refine g_aload_n (j := 0) dX12_decimal_0 rfl rfl ?_
  refine g_iconst (v := 0) dX12_decimal_1 (by decide) ?_
  obtain ⟨σ1, eσ1, hf⟩ := ob hf
  refine g_putI dX12_decimal_2 eσ1 (Or.inl t_1967) hin16 hc16 (by decide) hty16 hnm16 (Or.inl rfl) rfl rfl rfl ?_
  refine g_aload_n (j := 0) dX12_decimal_5 rfl rfl ?_
  refine g_iload_n (j := 1) dX12_decimal_6 rfl rfl ?_
  refine g_iconst (v := 1) dX12_decimal_7 (by decide) ?_
  refine g_sipush (v := 1000) dX12_decimal_8 (by decide) ?_
  obtain ⟨σ2, v3, eσ2, hf⟩ := cb_el hf
  refine g_callS_i dX12_decimal_11 (wX12_in _ eσ2) (okX12_in _ (by decide) (by decide)) t_2257 t_2258 rfl (Nat.le_trans (cat_le _) (Nat.le_of_ble_eq_true rfl)) rfl ?_
  refine g_iconst (v := 1) dX12_decimal_14 (by decide) ?_
  obtain ⟨_, h6, hf⟩ := ob hf
  obtain ⟨σ4, v5, eσ4, hf⟩ := cb_el hf
  refine g_callV_i dX12_decimal_15 (wX12_fails _ eσ4) (okX12_fails _ (by decide) (by decide)) (ckK_el h6) hc16 t_2225 t_2227 s_X12_fails rfl (Nat.le_trans (cat_le _) (Nat.le_of_ble_eq_true rfl)) rfl ?_
  refine g_if_eq (tgt := 23) dX12_decimal_18 (by decide) (fun c7 => ?_) (fun c7 => ?_)
  · rw [if_pos c7] at hf
    refine g_aload_n (j := 0) dX12_decimal_23 rfl rfl ?_
    refine g_iconst (v := 0) dX12_decimal_24 (by decide) ?_
    refine g_aload_n (j := 0) dX12_decimal_25 rfl rfl ?_
    obtain ⟨v8, ev8, hf⟩ := ob hf
    refine g_getI dX12_decimal_26 ev8 t_2024 hin16 hc16 (by decide) rfl ?_
    refine g_iconst (v := 0) dX12_decimal_29 (by decide) ?_
    obtain ⟨_, h11, hf⟩ := ob hf
    obtain ⟨σ9, v10, eσ9, hf⟩ := cb_el hf
    refine g_callV_v dX12_decimal_30 (wX12_loads _ eσ9) (okX12_loads _ (by decide) (by decide)) (ckK_el h11) hc16 t_2439 t_2441 s_X12_loads rfl (Nat.le_trans (cat_le _) (Nat.le_of_ble_eq_true rfl)) rfl ?_
    refine g_aload_n (j := 0) dX12_decimal_33 rfl rfl ?_
    refine g_iconst (v := 1) dX12_decimal_34 (by decide) ?_
    refine g_aload_n (j := 0) dX12_decimal_35 rfl rfl ?_
    obtain ⟨v12, ev12, hf⟩ := ob hf
    refine g_getI dX12_decimal_36 ev12 t_2024 hin16 hc16 (by decide) rfl ?_
    refine g_iconst (v := 1) dX12_decimal_39 (by decide) ?_
    obtain ⟨_, h15, hf⟩ := ob hf
    obtain ⟨σ13, v14, eσ13, hf⟩ := cb_el hf
    refine g_callV_v dX12_decimal_40 (wX12_loads _ eσ13) (okX12_loads _ (by decide) (by decide)) (ckK_el h15) hc16 t_2439 t_2441 s_X12_loads rfl (Nat.le_trans (cat_le _) (Nat.le_of_ble_eq_true rfl)) rfl ?_
    refine g_aload_n (j := 0) dX12_decimal_43 rfl rfl ?_
    refine g_iconst (v := 0) dX12_decimal_44 (by decide) ?_
    refine g_iconst (v := 1) dX12_decimal_45 (by decide) ?_
    obtain ⟨_, h18, hf⟩ := ob hf
    obtain ⟨σ16, v17, eσ16, hf⟩ := cb_el hf
    refine g_callV_v dX12_decimal_46 (wX12_divides _ eσ16) (okX12_divides _ (by decide) (by decide)) (ckK_el h18) hc16 t_1931 t_1933 s_X12_divides rfl (Nat.le_trans (cat_le _) (Nat.le_of_ble_eq_true rfl)) rfl ?_
    refine g_aload_n (j := 0) dX12_decimal_49 rfl rfl ?_
    refine g_bipush (v := 13) dX12_decimal_50 (by decide) ?_
    refine g_bipush (v := 10) dX12_decimal_52 (by decide) ?_
    obtain ⟨_, h21, hf⟩ := ob hf
    obtain ⟨σ19, v20, eσ19, hf⟩ := cb_el hf
    refine g_callV_v dX12_decimal_54 (wX12_copies _ eσ19) (okX12_copies _ (by decide) (by decide)) (ckK_el h21) hc16 t_1927 t_1929 s_X12_copies rfl (Nat.le_trans (cat_le _) (Nat.le_of_ble_eq_true rfl)) rfl ?_
    refine g_iconst (v := 0) dX12_decimal_57 (by decide) ?_
    refine g_istore_n (i := 2) (L' := [(2, .int 0), (0, rv x0), (1, .int x1)]) dX12_decimal_58 rfl (Nat.le_of_ble_eq_true rfl) rfl ?_
    refine g_iconst (v := 0) dX12_decimal_59 (by decide) ?_
    refine g_istore_n (i := 3) (L' := [(3, .int 0), (2, .int 0), (0, rv x0), (1, .int x1)]) dX12_decimal_60 rfl (Nat.le_of_ble_eq_true rfl) rfl ?_
    refine g_sub (L' := [(0, rv x0), (1, .int x1), (2, .int 0), (3, .int 0)]) [2, 3, 1, 0] rfl ?_
    exact bX12_decimal_61 hX1 hX2 FU _ _ _ _ _ hf
  · rw [if_neg c7] at hf
    refine g_iconst (v := 0) dX12_decimal_21 (by decide) ?_
    exact g_iret dX12_decimal_22 rfl rfl hX2 hX1 hf

theorem okX12_decimal (M : Mt) (h1 : 5 + 1 ≤ M.2.2.2.2.1) (h2 : 8 + (4 + 11) + 188 ≤ M.2.2.2.2.2.1) : CallOk M MtX12_decimal yX12_decimal 1 := ⟨t_2686, h1, h2, ⟨by decide, by decide⟩, by decide +kernel, t_16⟩
abbrev MtX12_continues : Mt := (cX12_continues, 3, "ExactlySaidModel", (Option.some Jvm.ClassFile.FieldType.int), 5, 192, false)
set_option maxRecDepth 100000 in
set_option maxHeartbeats 4000000 in
theorem bX12_continues_106 {X : Xt} {σf : St} {r : Int32} (hX1 : X.2.2.1 = σf) (hX2 : X.2.2.2 = .inl (some (.int r))) : ∀ (n : Nat) (σ : St) (x0 : Nat) (x1 : Int32), fX12_continues_106 n σ x0 x1 = some (σf, r) → G MtX12_continues X σ 106 [(0, rv x0), (1, .int x1)] [] := by
  intro n
  induction n with
  | zero => intro σ x0 x1 hf; cases hf
  | succ n ih =>
    intro σ x0 x1 hf
    rw [fX12_continues_106] at hf
    refine g_aload_n (j := 0) dX12_continues_106 rfl rfl ?_
    obtain ⟨v1, ev1, hf⟩ := ob hf
    refine g_getF dX12_continues_107 ev1 t_1969 hin16 hc16 (by decide) rfl ?_
    refine g_bipush (v := 13) dX12_continues_110 (by decide) ?_
    obtain ⟨v2, ev2, hf⟩ := ob hf
    refine g_iald dX12_continues_112 ev2 ?_
    refine g_if_le (tgt := 170) dX12_continues_113 (by decide) (fun c3 => ?_) (fun c3 => ?_)
    · rw [if_pos c3] at hf
      refine g_bipush (v := (-2)) dX12_continues_170 (by decide) ?_
      exact g_iret dX12_continues_172 rfl rfl hX2 hX1 hf
    · rw [if_neg c3] at hf
      refine g_aload_n (j := 0) dX12_continues_116 rfl rfl ?_
      refine g_bipush (v := 14) dX12_continues_117 (by decide) ?_
      refine g_bipush (v := 13) dX12_continues_119 (by decide) ?_
      obtain ⟨_, h6, hf⟩ := ob hf
      obtain ⟨σ4, v5, eσ4, hf⟩ := cb_el hf
      refine g_callV_v dX12_continues_121 (wX12_divides _ eσ4) (okX12_divides _ (by decide) (by decide)) (ckK_el h6) hc16 t_1931 t_1933 s_X12_divides rfl (Nat.le_trans (cat_le _) (Nat.le_of_ble_eq_true rfl)) rfl ?_
      refine g_aload_n (j := 0) dX12_continues_124 rfl rfl ?_
      refine g_bipush (v := 6) dX12_continues_125 (by decide) ?_
      refine g_bipush (v := 9) dX12_continues_127 (by decide) ?_
      obtain ⟨_, h9, hf⟩ := ob hf
      obtain ⟨σ7, v8, eσ7, hf⟩ := cb_el hf
      refine g_callV_v dX12_continues_129 (wX12_copies _ eσ7) (okX12_copies _ (by decide) (by decide)) (ckK_el h9) hc16 t_1927 t_1929 s_X12_copies rfl (Nat.le_trans (cat_le _) (Nat.le_of_ble_eq_true rfl)) rfl ?_
      refine g_aload_n (j := 0) dX12_continues_132 rfl rfl ?_
      refine g_bipush (v := 14) dX12_continues_133 (by decide) ?_
      refine g_bipush (v := 13) dX12_continues_135 (by decide) ?_
      obtain ⟨_, h12, hf⟩ := ob hf
      obtain ⟨σ10, v11, eσ10, hf⟩ := cb_el hf
      refine g_callV_v dX12_continues_137 (wX12_copies _ eσ10) (okX12_copies _ (by decide) (by decide)) (ckK_el h12) hc16 t_1927 t_1929 s_X12_copies rfl (Nat.le_trans (cat_le _) (Nat.le_of_ble_eq_true rfl)) rfl ?_
      refine g_aload_n (j := 0) dX12_continues_140 rfl rfl ?_
      refine g_bipush (v := 13) dX12_continues_141 (by decide) ?_
      refine g_bipush (v := 10) dX12_continues_143 (by decide) ?_
      obtain ⟨_, h15, hf⟩ := ob hf
      obtain ⟨σ13, v14, eσ13, hf⟩ := cb_el hf
      refine g_callV_v dX12_continues_145 (wX12_copies _ eσ13) (okX12_copies _ (by decide) (by decide)) (ckK_el h15) hc16 t_1927 t_1929 s_X12_copies rfl (Nat.le_trans (cat_le _) (Nat.le_of_ble_eq_true rfl)) rfl ?_
      refine g_aload_n (j := 0) dX12_continues_148 rfl rfl ?_
      refine g_dup dX12_continues_149 (rv_cat _) ?_
      obtain ⟨v16, ev16, hf⟩ := ob hf
      refine g_getI dX12_continues_150 ev16 t_2046 hin16 hc16 (by decide) rfl ?_
      refine g_iconst (v := 1) dX12_continues_153 (by decide) ?_
      refine g_iadd dX12_continues_154 ?_
      obtain ⟨σ17, eσ17, hf⟩ := ob hf
      refine g_putI dX12_continues_155 eσ17 (Or.inl t_2046) hin16 hc16 (by decide) hty16 hnm16 (Or.inl rfl) rfl rfl rfl ?_
      refine g_iload_n (j := 1) dX12_continues_158 rfl rfl ?_
      refine g_aload_n (j := 0) dX12_continues_159 rfl rfl ?_
      obtain ⟨v18, ev18, hf⟩ := ob hf
      refine g_getI dX12_continues_160 ev18 t_2046 hin16 hc16 (by decide) rfl ?_
      refine g_iconst (v := 1) dX12_continues_163 (by decide) ?_
      refine g_isub dX12_continues_164 ?_
      refine g_icmp_ne (tgt := 106) dX12_continues_165 (by decide) (fun c19 => ?_) (fun c19 => ?_)
      · rw [if_neg c19] at hf
        exact ih _ _ _ hf
      · rw [if_pos c19] at hf
        refine g_iconst (v := 1) dX12_continues_168 (by decide) ?_
        exact g_iret dX12_continues_169 rfl rfl hX2 hX1 hf

set_option maxRecDepth 100000 in
set_option maxHeartbeats 4000000 in
theorem bX12_continues_74 {X : Xt} {σf : St} {r : Int32} (hX1 : X.2.2.1 = σf) (hX2 : X.2.2.2 = .inl (some (.int r))) {σ : St} {x0 : Nat} {x1 : Int32} {x2 : Int32} (hf : fX12_continues_74 σ x0 x1 x2 = some (σf, r)) : G MtX12_continues X σ 74 [(0, rv x0), (1, .int x1), (2, .int x2)] [] := by
  unfold fX12_continues_74 at hf
  refine g_aload_n (j := 0) dX12_continues_74 rfl rfl ?_
  refine g_bipush (v := 14) dX12_continues_75 (by decide) ?_
  refine g_iconst (v := 1) dX12_continues_77 (by decide) ?_
  obtain ⟨_, h3, hf⟩ := ob hf
  obtain ⟨σ1, v2, eσ1, hf⟩ := cb_el hf
  refine g_callV_v dX12_continues_78 (wX12_copies _ eσ1) (okX12_copies _ (by decide) (by decide)) (ckK_el h3) hc16 t_1927 t_1929 s_X12_copies rfl (Nat.le_trans (cat_le _) (Nat.le_of_ble_eq_true rfl)) rfl ?_
  refine g_aload_n (j := 0) dX12_continues_81 rfl rfl ?_
  refine g_iconst (v := 1) dX12_continues_82 (by decide) ?_
  obtain ⟨σ4, eσ4, hf⟩ := ob hf
  refine g_putI dX12_continues_83 eσ4 (Or.inl t_2046) hin16 hc16 (by decide) hty16 hnm16 (Or.inl rfl) rfl rfl rfl ?_
  refine g_iload_n (j := 1) dX12_continues_86 rfl rfl ?_
  refine g_if_ne (tgt := 106) dX12_continues_87 (by decide) (fun c5 => ?_) (fun c5 => ?_)
  · rw [if_neg c5] at hf
    refine g_sub (L' := [(0, rv x0), (1, .int x1)]) [0, 1] rfl ?_
    exact bX12_continues_106 hX1 hX2 FU _ _ _ hf
  · rw [if_pos c5] at hf
    refine g_aload_n (j := 0) dX12_continues_90 rfl rfl ?_
    obtain ⟨v6, ev6, hf⟩ := ob hf
    refine g_getF dX12_continues_91 ev6 t_1969 hin16 hc16 (by decide) rfl ?_
    refine g_bipush (v := 6) dX12_continues_94 (by decide) ?_
    obtain ⟨v7, ev7, hf⟩ := ob hf
    refine g_iald dX12_continues_96 ev7 ?_
    refine g_if_ne (tgt := 104) dX12_continues_97 (by decide) (fun c8 => ?_) (fun c8 => ?_)
    · rw [if_neg c8] at hf
      refine g_iload_n (j := 2) dX12_continues_104 rfl rfl ?_
      exact g_iret dX12_continues_105 rfl rfl hX2 hX1 hf
    · rw [if_pos c8] at hf
      refine g_iconst (v := 0) dX12_continues_100 (by decide) ?_
      refine g_goto (tgt := 105) dX12_continues_101 (by decide) ?_
      exact g_iret dX12_continues_105 rfl rfl hX2 hX1 hf

set_option maxRecDepth 100000 in
set_option maxHeartbeats 4000000 in
theorem wX12_continues (l : Launch) {σ σf : St} {x0 : Nat} {x1 : Int32} {r : Int32} (hf : fX12_continues σ x0 x1 = some (σf, r)) : Con MtX12_continues yX12_continues l σ [rv x0, .int x1] σf (some (.int r)) := by
  refine Con.of (by decide +kernel) rfl (fun h => absurd (show false = true from h) (by decide)) (by simp only [sl_n, sl_r, sl_i, sl_l]; exact Nat.le_of_ble_eq_true rfl) ?_
  rw [show lv_args 0 [rv x0, .int x1] = [(0, rv x0), (1, .int x1)] by simp only [la_n, la_r, la_i, la_l] <;> rfl]
  have hX1 : ((l, σ, σf, .inl (some (.int r))) : Xt).2.2.1 = σf := rfl
  have hX2 : ((l, σ, σf, .inl (some (.int r))) : Xt).2.2.2 = .inl (some (.int r)) := rfl
  unfold fX12_continues at hf
  refine g_aload_n (j := 0) dX12_continues_0 rfl rfl ?_
  refine g_iconst (v := 0) dX12_continues_1 (by decide) ?_
  obtain ⟨σ1, eσ1, hf⟩ := ob hf
  refine g_putI dX12_continues_2 eσ1 (Or.inl t_2046) hin16 hc16 (by decide) hty16 hnm16 (Or.inl rfl) rfl rfl rfl ?_
  refine g_aload_n (j := 0) dX12_continues_5 rfl rfl ?_
  refine g_bipush (v := 12) dX12_continues_6 (by decide) ?_
  refine g_aload_n (j := 0) dX12_continues_8 rfl rfl ?_
  obtain ⟨v2, ev2, hf⟩ := ob hf
  refine g_getI dX12_continues_9 ev2 t_2024 hin16 hc16 (by decide) rfl ?_
  obtain ⟨_, h5, hf⟩ := ob hf
  obtain ⟨σ3, v4, eσ3, hf⟩ := cb_el hf
  refine g_callV_v dX12_continues_12 (wX12_rounds _ eσ3) (okX12_rounds _ (by decide) (by decide)) (ckK_el h5) hc16 t_2467 t_2469 s_X12_rounds rfl (Nat.le_trans (cat_le _) (Nat.le_of_ble_eq_true rfl)) rfl ?_
  refine g_aload_n (j := 0) dX12_continues_15 rfl rfl ?_
  refine g_iconst (v := 4) dX12_continues_16 (by decide) ?_
  refine g_bipush (v := 6) dX12_continues_17 (by decide) ?_
  obtain ⟨_, h8, hf⟩ := ob hf
  obtain ⟨σ6, v7, eσ6, hf⟩ := cb_el hf
  refine g_callV_v dX12_continues_19 (wX12_copies _ eσ6) (okX12_copies _ (by decide) (by decide)) (ckK_el h8) hc16 t_1927 t_1929 s_X12_copies rfl (Nat.le_trans (cat_le _) (Nat.le_of_ble_eq_true rfl)) rfl ?_
  refine g_aload_n (j := 0) dX12_continues_22 rfl rfl ?_
  obtain ⟨v9, ev9, hf⟩ := ob hf
  refine g_getF dX12_continues_23 ev9 t_1970 hin16 hc16 (by decide) rfl ?_
  refine g_aload_n (j := 0) dX12_continues_26 rfl rfl ?_
  obtain ⟨v10, ev10, hf⟩ := ob hf
  refine g_getI dX12_continues_27 ev10 t_2024 hin16 hc16 (by decide) rfl ?_
  obtain ⟨v11, ev11, hf⟩ := ob hf
  refine g_iald dX12_continues_30 ev11 ?_
  refine g_istore_n (i := 2) (L' := [(2, .int v11), (0, rv x0), (1, .int x1)]) dX12_continues_31 rfl (Nat.le_of_ble_eq_true rfl) rfl ?_
  refine g_aload_n (j := 1) dX12_continues_32 rfl rfl ?_
  refine g_iconst (v := 5) dX12_continues_33 (by decide) ?_
  refine g_iconst (v := 4) dX12_continues_34 (by decide) ?_
  refine g_iconst (v := 1) dX12_continues_35 (by decide) ?_
  obtain ⟨_, h14, hf⟩ := ob hf
  obtain ⟨σ12, v13, eσ12, hf⟩ := cb_el hf
  refine g_callV_v dX12_continues_36 (wX12_multiplies _ eσ12) (okX12_multiplies _ (by decide) (by decide)) (ckK_el h14) hc16 t_2310 t_2312 s_X12_multiplies rfl (Nat.le_trans (cat_le _) (Nat.le_of_ble_eq_true rfl)) rfl ?_
  refine g_iload_n (j := 0) dX12_continues_39 rfl rfl ?_
  refine g_if_lt (tgt := 60) dX12_continues_40 (by decide) (fun c15 => ?_) (fun c15 => ?_)
  · rw [if_pos c15] at hf
    refine g_aload_n (j := 1) dX12_continues_60 rfl rfl ?_
    refine g_bipush (v := 13) dX12_continues_61 (by decide) ?_
    refine g_iconst (v := 5) dX12_continues_63 (by decide) ?_
    obtain ⟨_, h18, hf⟩ := ob hf
    obtain ⟨σ16, v17, eσ16, hf⟩ := cb_el hf
    refine g_callV_v dX12_continues_64 (wX12_copies _ eσ16) (okX12_copies _ (by decide) (by decide)) (ckK_el h18) hc16 t_1927 t_1929 s_X12_copies rfl (Nat.le_trans (cat_le _) (Nat.le_of_ble_eq_true rfl)) rfl ?_
    refine g_aload_n (j := 1) dX12_continues_67 rfl rfl ?_
    refine g_bipush (v := 13) dX12_continues_68 (by decide) ?_
    refine g_iconst (v := 0) dX12_continues_70 (by decide) ?_
    obtain ⟨_, h21, hf⟩ := ob hf
    obtain ⟨σ19, v20, eσ19, hf⟩ := cb_el hf
    refine g_callV_v dX12_continues_71 (wX12_takesAway _ eσ19) (okX12_takesAway _ (by decide) (by decide)) (ckK_el h21) hc16 t_2306 t_2308 s_X12_takesAway rfl (Nat.le_trans (cat_le _) (Nat.le_of_ble_eq_true rfl)) rfl ?_
    refine g_sub (L' := [(0, rv x0), (1, .int x1), (2, .int v11)]) [1, 2, 0] rfl ?_
    exact bX12_continues_74 hX1 hX2 hf
  · rw [if_neg c15] at hf
    refine g_aload_n (j := 1) dX12_continues_43 rfl rfl ?_
    refine g_bipush (v := 13) dX12_continues_44 (by decide) ?_
    refine g_iconst (v := 0) dX12_continues_46 (by decide) ?_
    obtain ⟨_, h24, hf⟩ := ob hf
    obtain ⟨σ22, v23, eσ22, hf⟩ := cb_el hf
    refine g_callV_v dX12_continues_47 (wX12_copies _ eσ22) (okX12_copies _ (by decide) (by decide)) (ckK_el h24) hc16 t_1927 t_1929 s_X12_copies rfl (Nat.le_trans (cat_le _) (Nat.le_of_ble_eq_true rfl)) rfl ?_
    refine g_aload_n (j := 1) dX12_continues_50 rfl rfl ?_
    refine g_bipush (v := 13) dX12_continues_51 (by decide) ?_
    refine g_iconst (v := 5) dX12_continues_53 (by decide) ?_
    obtain ⟨_, h27, hf⟩ := ob hf
    obtain ⟨σ25, v26, eσ25, hf⟩ := cb_el hf
    refine g_callV_v dX12_continues_54 (wX12_takesAway _ eσ25) (okX12_takesAway _ (by decide) (by decide)) (ckK_el h27) hc16 t_2306 t_2308 s_X12_takesAway rfl (Nat.le_trans (cat_le _) (Nat.le_of_ble_eq_true rfl)) rfl ?_
    refine g_goto (tgt := 74) dX12_continues_57 (by decide) ?_
    refine g_sub (L' := [(0, rv x0), (1, .int x1), (2, .int v11)]) [1, 2, 0] rfl ?_
    exact bX12_continues_74 hX1 hX2 hf

theorem okX12_continues (M : Mt) (h1 : 5 + 1 ≤ M.2.2.2.2.1) (h2 : 8 + (3 + 11) + 192 ≤ M.2.2.2.2.2.1) : CallOk M MtX12_continues yX12_continues 1 := ⟨t_2694, h1, h2, ⟨by decide, by decide⟩, by decide +kernel, t_16⟩
abbrev MtX12_continued : Mt := (cX12_continued, 2, "ExactlySaidModel", (Option.some Jvm.ClassFile.FieldType.int), 6, 214, false)
set_option maxRecDepth 100000 in
set_option maxHeartbeats 4000000 in
theorem wX12_continued (l : Launch) {σ σf : St} {x0 : Nat} {r : Int32} (hf : fX12_continued σ x0 = some (σf, r)) : Con MtX12_continued yX12_continued l σ [rv x0] σf (some (.int r)) := by
  refine Con.of (by decide +kernel) rfl (fun h => absurd (show false = true from h) (by decide)) (by simp only [sl_n, sl_r, sl_i, sl_l]; exact Nat.le_of_ble_eq_true rfl) ?_
  rw [show lv_args 0 [rv x0] = [(0, rv x0)] by simp only [la_n, la_r, la_i, la_l] <;> rfl]
  have hX1 : ((l, σ, σf, .inl (some (.int r))) : Xt).2.2.1 = σf := rfl
  have hX2 : ((l, σ, σf, .inl (some (.int r))) : Xt).2.2.2 = .inl (some (.int r)) := rfl
  unfold fX12_continued at hf
  refine g_aload_n (j := 0) dX12_continued_0 rfl rfl ?_
  refine g_iconst (v := 0) dX12_continued_1 (by decide) ?_
  obtain ⟨σ1, eσ1, hf⟩ := ob hf
  refine g_putI dX12_continued_2 eσ1 (Or.inl t_1967) hin16 hc16 (by decide) hty16 hnm16 (Or.inl rfl) rfl rfl rfl ?_
  refine g_aload_n (j := 0) dX12_continued_5 rfl rfl ?_
  refine g_iconst (v := (-1)) dX12_continued_6 (by decide) ?_
  obtain ⟨_, h4, hf⟩ := ob hf
  obtain ⟨σ2, v3, eσ2, hf⟩ := cb_el hf
  refine g_callV_i dX12_continued_7 (wX12_continues _ eσ2) (okX12_continues _ (by decide) (by decide)) (ckK_el h4) hc16 t_2691 t_2693 s_X12_continues rfl (Nat.le_trans (cat_le _) (Nat.le_of_ble_eq_true rfl)) rfl ?_
  refine g_istore_n (i := 1) (L' := [(1, .int v3), (0, rv x0)]) dX12_continued_10 rfl (Nat.le_of_ble_eq_true rfl) (by simp [rv_cat]) ?_
  refine g_aload_n (j := 1) dX12_continued_11 rfl rfl ?_
  obtain ⟨v5, ev5, hf⟩ := ob hf
  refine g_getI dX12_continued_12 ev5 t_2046 hin16 hc16 (by decide) rfl ?_
  exact g_iret dX12_continued_15 rfl rfl hX2 hX1 hf

theorem okX12_continued (M : Mt) (h1 : 6 + 1 ≤ M.2.2.2.2.1) (h2 : 8 + (2 + 11) + 214 ≤ M.2.2.2.2.2.1) : CallOk M MtX12_continued yX12_continued 0 := ⟨t_2690, h1, h2, ⟨by decide, by decide⟩, by decide +kernel, t_16⟩
abbrev MtX12_takeContinued : Mt := (cX12_takeContinued, 3, "ExactlySaidModel", (Option.some Jvm.ClassFile.FieldType.int), 8, 255, false)
set_option maxRecDepth 100000 in
set_option maxHeartbeats 4000000 in
theorem bX12_takeContinued_32 {X : Xt} {σf : St} {r : Int32} (hX1 : X.2.2.1 = σf) (hX2 : X.2.2.2 = .inl (some (.int r))) {σ : St} {x0 : Nat} {x2 : Int32} {y0 : Nat} {y1 : Int32} (hf : fX12_takeContinued_32 σ x0 x2 y0 y1 = some (σf, r)) : G MtX12_takeContinued X σ 32 [(0, rv x0), (2, .int x2)] [.int y1, rv y0] := by
  unfold fX12_takeContinued_32 at hf
  refine g_iconst (v := 1) dX12_takeContinued_32 (by decide) ?_
  obtain ⟨_, h3, hf⟩ := ob hf
  obtain ⟨σ1, v2, eσ1, hf⟩ := cb_el hf
  refine g_callV_i dX12_takeContinued_33 (wX12_fails _ eσ1) (okX12_fails _ (by decide) (by decide)) (ckK_el h3) hc16 t_2225 t_2227 s_X12_fails rfl (Nat.le_trans (cat_le _) (Nat.le_of_ble_eq_true rfl)) rfl ?_
  refine g_if_eq (tgt := 41) dX12_takeContinued_36 (by decide) (fun c4 => ?_) (fun c4 => ?_)
  · rw [if_pos c4] at hf
    refine g_aload_n (j := 0) dX12_takeContinued_41 rfl rfl ?_
    refine g_bipush (v := 7) dX12_takeContinued_42 (by decide) ?_
    refine g_iconst (v := 1) dX12_takeContinued_44 (by decide) ?_
    obtain ⟨_, h7, hf⟩ := ob hf
    obtain ⟨σ5, v6, eσ5, hf⟩ := cb_el hf
    refine g_callV_v dX12_takeContinued_45 (wX12_puts _ eσ5) (okX12_puts _ (by decide) (by decide)) (ckK_el h7) hc16 t_1911 t_1913 s_X12_puts rfl (Nat.le_trans (cat_le _) (Nat.le_of_ble_eq_true rfl)) rfl ?_
    refine g_aload_n (j := 0) dX12_takeContinued_48 rfl rfl ?_
    refine g_aload_n (j := 0) dX12_takeContinued_49 rfl rfl ?_
    refine g_iload_n (j := 1) dX12_takeContinued_50 rfl rfl ?_
    obtain ⟨_, h10, hf⟩ := ob hf
    obtain ⟨σ8, v9, eσ8, hf⟩ := cb_el hf
    refine g_callV_i dX12_takeContinued_51 (wX12_keepsMade _ eσ8) (okX12_keepsMade _ (by decide) (by decide)) (ckK_el h10) hc16 t_2314 t_2316 s_X12_keepsMade rfl (Nat.le_trans (cat_le _) (Nat.le_of_ble_eq_true rfl)) rfl ?_
    obtain ⟨_, h13, hf⟩ := ob hf
    obtain ⟨σ11, v12, eσ11, hf⟩ := cb_el hf
    refine g_callV_i dX12_takeContinued_54 (wX12_becomes _ eσ11) (okX12_becomes _ (by decide) (by decide)) (ckK_el h13) hc16 t_2615 t_2617 s_X12_becomes rfl (Nat.le_trans (cat_le _) (Nat.le_of_ble_eq_true rfl)) rfl ?_
    exact g_iret dX12_takeContinued_57 rfl rfl hX2 hX1 hf
  · rw [if_neg c4] at hf
    refine g_iconst (v := 0) dX12_takeContinued_39 (by decide) ?_
    exact g_iret dX12_takeContinued_40 rfl rfl hX2 hX1 hf

set_option maxRecDepth 100000 in
set_option maxHeartbeats 4000000 in
theorem bX12_takeContinued_19 {X : Xt} {σf : St} {r : Int32} (hX1 : X.2.2.1 = σf) (hX2 : X.2.2.2 = .inl (some (.int r))) {σ : St} {x0 : Nat} {y0 : Int32} (hf : fX12_takeContinued_19 σ x0 y0 = some (σf, r)) : G MtX12_takeContinued X σ 19 [(0, rv x0)] [.int y0] := by
  unfold fX12_takeContinued_19 at hf
  refine g_istore_n (i := 2) (L' := [(2, .int y0), (0, rv x0)]) dX12_takeContinued_19 rfl (Nat.le_of_ble_eq_true rfl) rfl ?_
  refine g_aload_n (j := 1) dX12_takeContinued_20 rfl rfl ?_
  refine g_iload_n (j := 0) dX12_takeContinued_21 rfl rfl ?_
  refine g_bipush (v := (-2)) dX12_takeContinued_22 (by decide) ?_
  refine g_icmp_le (tgt := 31) dX12_takeContinued_24 (by decide) (fun c1 => ?_) (fun c1 => ?_)
  · rw [if_pos c1] at hf
    refine g_iconst (v := 0) dX12_takeContinued_31 (by decide) ?_
    refine g_sub (L' := [(0, rv x0), (2, .int y0)]) [1, 0] rfl ?_
    exact bX12_takeContinued_32 hX1 hX2 hf
  · rw [if_neg c1] at hf
    refine g_iconst (v := 1) dX12_takeContinued_27 (by decide) ?_
    refine g_goto (tgt := 32) dX12_takeContinued_28 (by decide) ?_
    refine g_sub (L' := [(0, rv x0), (2, .int y0)]) [1, 0] rfl ?_
    exact bX12_takeContinued_32 hX1 hX2 hf

set_option maxRecDepth 100000 in
set_option maxHeartbeats 4000000 in
theorem wX12_takeContinued (l : Launch) {σ σf : St} {x0 : Nat} {x1 : Int32} {r : Int32} (hf : fX12_takeContinued σ x0 x1 = some (σf, r)) : Con MtX12_takeContinued yX12_takeContinued l σ [rv x0, .int x1] σf (some (.int r)) := by
  refine Con.of (by decide +kernel) rfl (fun h => absurd (show false = true from h) (by decide)) (by simp only [sl_n, sl_r, sl_i, sl_l]; exact Nat.le_of_ble_eq_true rfl) ?_
  rw [show lv_args 0 [rv x0, .int x1] = [(0, rv x0), (1, .int x1)] by simp only [la_n, la_r, la_i, la_l] <;> rfl]
  have hX1 : ((l, σ, σf, .inl (some (.int r))) : Xt).2.2.1 = σf := rfl
  have hX2 : ((l, σ, σf, .inl (some (.int r))) : Xt).2.2.2 = .inl (some (.int r)) := rfl
  unfold fX12_takeContinued at hf
  refine g_aload_n (j := 0) dX12_takeContinued_0 rfl rfl ?_
  refine g_iconst (v := 0) dX12_takeContinued_1 (by decide) ?_
  obtain ⟨σ1, eσ1, hf⟩ := ob hf
  refine g_putI dX12_takeContinued_2 eσ1 (Or.inl t_1967) hin16 hc16 (by decide) hty16 hnm16 (Or.inl rfl) rfl rfl rfl ?_
  refine g_iload_n (j := 1) dX12_takeContinued_5 rfl rfl ?_
  refine g_if_ge (tgt := 14) dX12_takeContinued_6 (by decide) (fun c2 => ?_) (fun c2 => ?_)
  · rw [if_pos c2] at hf
    refine g_aload_n (j := 0) dX12_takeContinued_14 rfl rfl ?_
    refine g_iload_n (j := 1) dX12_takeContinued_15 rfl rfl ?_
    obtain ⟨_, h5, hf⟩ := ob hf
    obtain ⟨σ3, v4, eσ3, hf⟩ := cb_el hf
    refine g_callV_i dX12_takeContinued_16 (wX12_continues _ eσ3) (okX12_continues _ (by decide) (by decide)) (ckK_el h5) hc16 t_2691 t_2693 s_X12_continues rfl (Nat.le_trans (cat_le _) (Nat.le_of_ble_eq_true rfl)) rfl ?_
    refine g_sub (L' := [(0, rv x0)]) [0] rfl ?_
    exact bX12_takeContinued_19 hX1 hX2 hf
  · rw [if_neg c2] at hf
    refine g_bipush (v := (-2)) dX12_takeContinued_9 (by decide) ?_
    refine g_goto (tgt := 19) dX12_takeContinued_11 (by decide) ?_
    refine g_sub (L' := [(0, rv x0)]) [0] rfl ?_
    exact bX12_takeContinued_19 hX1 hX2 hf

theorem okX12_takeContinued (M : Mt) (h1 : 8 + 1 ≤ M.2.2.2.2.1) (h2 : 8 + (3 + 11) + 255 ≤ M.2.2.2.2.2.1) : CallOk M MtX12_takeContinued yX12_takeContinued 1 := ⟨t_2698, h1, h2, ⟨by decide, by decide⟩, by decide +kernel, t_16⟩
abbrev MtX12_looks : Mt := (cX12_looks, 3, "ExactlySaidModel", none, 3, 130, false)
set_option maxRecDepth 100000 in
set_option maxHeartbeats 4000000 in
theorem bX12_looks_51 {X : Xt} {σf : St} {r : Unit} (hX1 : X.2.2.1 = σf) (hX2 : X.2.2.2 = .inl (none)) {σ : St} {x0 : Nat} {x1 : Int32} {x2 : Int32} (hf : fX12_looks_51 σ x0 x1 x2 = some (σf, r)) : G MtX12_looks X σ 51 [(0, rv x0), (1, .int x1), (2, .int x2)] [] := by
  unfold fX12_looks_51 at hf
  refine g_aload_n (j := 0) dX12_looks_51 rfl rfl ?_
  refine g_bipush (v := 13) dX12_looks_52 (by decide) ?_
  refine g_iconst (v := 4) dX12_looks_54 (by decide) ?_
  obtain ⟨_, h3, hf⟩ := ob hf
  obtain ⟨σ1, v2, eσ1, hf⟩ := cb_el hf
  refine g_callV_v dX12_looks_55 (wX12_copies _ eσ1) (okX12_copies _ (by decide) (by decide)) (ckK_el h3) hc16 t_1927 t_1929 s_X12_copies rfl (Nat.le_trans (cat_le _) (Nat.le_of_ble_eq_true rfl)) rfl ?_
  refine g_aload_n (j := 0) dX12_looks_58 rfl rfl ?_
  refine g_bipush (v := 14) dX12_looks_59 (by decide) ?_
  refine g_iconst (v := 5) dX12_looks_61 (by decide) ?_
  obtain ⟨_, h6, hf⟩ := ob hf
  obtain ⟨σ4, v5, eσ4, hf⟩ := cb_el hf
  refine g_callV_v dX12_looks_62 (wX12_copies _ eσ4) (okX12_copies _ (by decide) (by decide)) (ckK_el h6) hc16 t_1927 t_1929 s_X12_copies rfl (Nat.le_trans (cat_le _) (Nat.le_of_ble_eq_true rfl)) rfl ?_
  refine g_aload_n (j := 0) dX12_looks_65 rfl rfl ?_
  refine g_iload_n (j := 1) dX12_looks_66 rfl rfl ?_
  obtain ⟨σ7, eσ7, hf⟩ := ob hf
  refine g_putI dX12_looks_67 eσ7 (Or.inl t_2048) hin16 hc16 (by decide) hty16 hnm16 (Or.inl rfl) rfl rfl rfl ?_
  refine g_aload_n (j := 0) dX12_looks_70 rfl rfl ?_
  refine g_iload_n (j := 2) dX12_looks_71 rfl rfl ?_
  obtain ⟨σ8, eσ8, hf⟩ := ob hf
  refine g_putI dX12_looks_72 eσ8 (Or.inl t_2047) hin16 hc16 (by decide) hty16 hnm16 (Or.inl rfl) rfl rfl rfl ?_
  exact g_vret dX12_looks_75 rfl hX2 hX1 hf

set_option maxRecDepth 100000 in
set_option maxHeartbeats 4000000 in
theorem wX12_looks (l : Launch) {σ σf : St} {x0 : Nat} {x1 : Int32} {x2 : Int32} {r : Unit} (hf : fX12_looks σ x0 x1 x2 = some (σf, r)) : Con MtX12_looks yX12_looks l σ [rv x0, .int x1, .int x2] σf (none) := by
  refine Con.of (by decide +kernel) rfl (fun h => absurd (show false = true from h) (by decide)) (by simp only [sl_n, sl_r, sl_i, sl_l]; exact Nat.le_of_ble_eq_true rfl) ?_
  rw [show lv_args 0 [rv x0, .int x1, .int x2] = [(0, rv x0), (1, .int x1), (2, .int x2)] by simp only [la_n, la_r, la_i, la_l] <;> rfl]
  have hX1 : ((l, σ, σf, .inl (none)) : Xt).2.2.1 = σf := rfl
  have hX2 : ((l, σ, σf, .inl (none)) : Xt).2.2.2 = .inl (none) := rfl
  unfold fX12_looks at hf
  refine g_aload_n (j := 0) dX12_looks_0 rfl rfl ?_
  obtain ⟨v1, ev1, hf⟩ := ob hf
  refine g_getI dX12_looks_1 ev1 t_2048 hin16 hc16 (by decide) rfl ?_
  refine g_if_le (tgt := 51) dX12_looks_4 (by decide) (fun c2 => ?_) (fun c2 => ?_)
  · rw [if_pos c2] at hf
    exact bX12_looks_51 hX1 hX2 hf
  · rw [if_neg c2] at hf
    refine g_aload_n (j := 0) dX12_looks_7 rfl rfl ?_
    refine g_bipush (v := 6) dX12_looks_8 (by decide) ?_
    refine g_iconst (v := 5) dX12_looks_10 (by decide) ?_
    obtain ⟨_, h5, hf⟩ := ob hf
    obtain ⟨σ3, v4, eσ3, hf⟩ := cb_el hf
    refine g_callV_v dX12_looks_11 (wX12_copies _ eσ3) (okX12_copies _ (by decide) (by decide)) (ckK_el h5) hc16 t_1927 t_1929 s_X12_copies rfl (Nat.le_trans (cat_le _) (Nat.le_of_ble_eq_true rfl)) rfl ?_
    refine g_aload_n (j := 0) dX12_looks_14 rfl rfl ?_
    refine g_bipush (v := 6) dX12_looks_15 (by decide) ?_
    refine g_aload_n (j := 0) dX12_looks_17 rfl rfl ?_
    obtain ⟨v6, ev6, hf⟩ := ob hf
    refine g_getI dX12_looks_18 ev6 t_2048 hin16 hc16 (by decide) rfl ?_
    obtain ⟨_, h9, hf⟩ := ob hf
    obtain ⟨σ7, v8, eσ7, hf⟩ := cb_el hf
    refine g_callV_v dX12_looks_21 (wX12_times _ eσ7) (okX12_times _ (by decide) (by decide)) (ckK_el h9) hc16 t_1947 t_1949 s_X12_times rfl (Nat.le_trans (cat_le _) (Nat.le_of_ble_eq_true rfl)) rfl ?_
    refine g_aload_n (j := 0) dX12_looks_24 rfl rfl ?_
    refine g_bipush (v := 7) dX12_looks_25 (by decide) ?_
    refine g_bipush (v := 14) dX12_looks_27 (by decide) ?_
    obtain ⟨_, h12, hf⟩ := ob hf
    obtain ⟨σ10, v11, eσ10, hf⟩ := cb_el hf
    refine g_callV_v dX12_looks_29 (wX12_copies _ eσ10) (okX12_copies _ (by decide) (by decide)) (ckK_el h12) hc16 t_1927 t_1929 s_X12_copies rfl (Nat.le_trans (cat_le _) (Nat.le_of_ble_eq_true rfl)) rfl ?_
    refine g_aload_n (j := 0) dX12_looks_32 rfl rfl ?_
    refine g_bipush (v := 7) dX12_looks_33 (by decide) ?_
    refine g_iload_n (j := 1) dX12_looks_35 rfl rfl ?_
    obtain ⟨_, h15, hf⟩ := ob hf
    obtain ⟨σ13, v14, eσ13, hf⟩ := cb_el hf
    refine g_callV_v dX12_looks_36 (wX12_times _ eσ13) (okX12_times _ (by decide) (by decide)) (ckK_el h15) hc16 t_1947 t_1949 s_X12_times rfl (Nat.le_trans (cat_le _) (Nat.le_of_ble_eq_true rfl)) rfl ?_
    refine g_aload_n (j := 0) dX12_looks_39 rfl rfl ?_
    refine g_bipush (v := 6) dX12_looks_40 (by decide) ?_
    refine g_bipush (v := 7) dX12_looks_42 (by decide) ?_
    obtain ⟨_, h18, hf⟩ := ob hf
    obtain ⟨σ16, v17, eσ16, hf⟩ := cb_el hf
    refine g_callV_i dX12_looks_44 (wX12_compares _ eσ16) (okX12_compares _ (by decide) (by decide)) (ckK_el h18) hc16 t_1935 t_1937 s_X12_compares rfl (Nat.le_trans (cat_le _) (Nat.le_of_ble_eq_true rfl)) rfl ?_
    refine g_if_lt (tgt := 51) dX12_looks_47 (by decide) (fun c19 => ?_) (fun c19 => ?_)
    · rw [if_pos c19] at hf
      exact bX12_looks_51 hX1 hX2 hf
    · rw [if_neg c19] at hf
      exact g_vret dX12_looks_50 rfl hX2 hX1 hf

theorem okX12_looks (M : Mt) (h1 : 3 + 1 ≤ M.2.2.2.2.1) (h2 : 8 + (3 + 11) + 130 ≤ M.2.2.2.2.2.1) : CallOk M MtX12_looks yX12_looks 2 := ⟨t_2706, h1, h2, ⟨by decide, by decide⟩, by decide +kernel, t_16⟩
abbrev MtX12_takeBest : Mt := (cX12_takeBest, 6, "ExactlySaidModel", (Option.some Jvm.ClassFile.FieldType.int), 8, 255, false)
set_option maxRecDepth 100000 in
set_option maxHeartbeats 4000000 in
theorem bX12_takeBest_172 {X : Xt} {σf : St} {r : Int32} (hX1 : X.2.2.1 = σf) (hX2 : X.2.2.2 = .inl (some (.int r))) {k40 : St → Nat → Int32 → Int32 → Int32 → Option (St × Int32)} {k80 : St → Nat → Int32 → Int32 → Int32 → Int32 → Option (St × Int32)} (hk40 : ∀ (σ : St) (x0 : Nat) (x1 : Int32) (x2 : Int32) (x3 : Int32), k40 σ x0 x1 x2 x3 = some (σf, r) → G MtX12_takeBest X σ 40 [(0, rv x0), (1, .int x1), (2, .int x2), (3, .int x3)] []) (hk80 : ∀ (σ : St) (x0 : Nat) (x1 : Int32) (x2 : Int32) (x3 : Int32) (x4 : Int32), k80 σ x0 x1 x2 x3 x4 = some (σf, r) → G MtX12_takeBest X σ 80 [(0, rv x0), (1, .int x1), (2, .int x2), (3, .int x3), (4, .int x4)] []) {σ : St} {x0 : Nat} {x1 : Int32} {x2 : Int32} {x3 : Int32} {x4 : Int32} {y0 : Nat} {y1 : Int32} {y2 : Int32} (hf : fX12_takeBest_172 k40 k80 σ x0 x1 x2 x3 x4 y0 y1 y2 = some (σf, r)) : G MtX12_takeBest X σ 172 [(0, rv x0), (1, .int x1), (2, .int x2), (3, .int x3), (4, .int x4)] [.int y2, .int y1, rv y0] := by
  unfold fX12_takeBest_172 at hf
  obtain ⟨_, h3, hf⟩ := ob hf
  obtain ⟨σ1, v2, eσ1, hf⟩ := cb_el hf
  refine g_callV_v dX12_takeBest_172 (wX12_looks _ eσ1) (okX12_looks _ (by decide) (by decide)) (ckK_el h3) hc16 t_2703 t_2705 s_X12_looks rfl (Nat.le_trans (cat_le _) (Nat.le_of_ble_eq_true rfl)) rfl ?_
  obtain ⟨v4, ev4, hf⟩ := nm_el hf
  refine g_iinc (L' := [(4, .int v4), (0, rv x0), (1, .int x1), (2, .int x2), (3, .int x3)]) (j := 4) (v := v4) dX12_takeBest_175 rfl (by rw [ev4]; rfl) (Nat.le_of_ble_eq_true rfl) rfl ?_
  refine g_goto (tgt := 80) dX12_takeBest_178 (by decide) ?_
  refine g_sub (L' := [(0, rv x0), (1, .int x1), (2, .int x2), (3, .int x3), (4, .int v4)]) [1, 2, 3, 4, 0] rfl ?_
  exact hk80 _ _ _ _ _ _ hf

set_option maxRecDepth 100000 in
set_option maxHeartbeats 4000000 in
theorem bX12_takeBest_161 {X : Xt} {σf : St} {r : Int32} (hX1 : X.2.2.1 = σf) (hX2 : X.2.2.2 = .inl (some (.int r))) {k40 : St → Nat → Int32 → Int32 → Int32 → Option (St × Int32)} {k80 : St → Nat → Int32 → Int32 → Int32 → Int32 → Option (St × Int32)} (hk40 : ∀ (σ : St) (x0 : Nat) (x1 : Int32) (x2 : Int32) (x3 : Int32), k40 σ x0 x1 x2 x3 = some (σf, r) → G MtX12_takeBest X σ 40 [(0, rv x0), (1, .int x1), (2, .int x2), (3, .int x3)] []) (hk80 : ∀ (σ : St) (x0 : Nat) (x1 : Int32) (x2 : Int32) (x3 : Int32) (x4 : Int32), k80 σ x0 x1 x2 x3 x4 = some (σf, r) → G MtX12_takeBest X σ 80 [(0, rv x0), (1, .int x1), (2, .int x2), (3, .int x3), (4, .int x4)] []) {σ : St} {x0 : Nat} {x1 : Int32} {x2 : Int32} {x3 : Int32} {x4 : Int32} (hf : fX12_takeBest_161 k40 k80 σ x0 x1 x2 x3 x4 = some (σf, r)) : G MtX12_takeBest X σ 161 [(0, rv x0), (1, .int x1), (2, .int x2), (3, .int x3), (4, .int x4)] [] := by
  unfold fX12_takeBest_161 at hf
  refine g_aload_n (j := 0) dX12_takeBest_161 rfl rfl ?_
  refine g_iload_n (j := 3) dX12_takeBest_162 rfl rfl ?_
  refine g_iload_n (j := 2) dX12_takeBest_163 rfl rfl ?_
  refine g_if_ge (tgt := 171) dX12_takeBest_164 (by decide) (fun c1 => ?_) (fun c1 => ?_)
  · rw [if_pos c1] at hf
    refine g_iconst (v := 1) dX12_takeBest_171 (by decide) ?_
    exact bX12_takeBest_172 hX1 hX2 hk40 hk80 hf
  · rw [if_neg c1] at hf
    refine g_iconst (v := (-1)) dX12_takeBest_167 (by decide) ?_
    refine g_goto (tgt := 172) dX12_takeBest_168 (by decide) ?_
    exact bX12_takeBest_172 hX1 hX2 hk40 hk80 hf

set_option maxRecDepth 100000 in
set_option maxHeartbeats 4000000 in
theorem bX12_takeBest_113 {X : Xt} {σf : St} {r : Int32} (hX1 : X.2.2.1 = σf) (hX2 : X.2.2.2 = .inl (some (.int r))) {k40 : St → Nat → Int32 → Int32 → Int32 → Option (St × Int32)} {k80 : St → Nat → Int32 → Int32 → Int32 → Int32 → Option (St × Int32)} (hk40 : ∀ (σ : St) (x0 : Nat) (x1 : Int32) (x2 : Int32) (x3 : Int32), k40 σ x0 x1 x2 x3 = some (σf, r) → G MtX12_takeBest X σ 40 [(0, rv x0), (1, .int x1), (2, .int x2), (3, .int x3)] []) (hk80 : ∀ (σ : St) (x0 : Nat) (x1 : Int32) (x2 : Int32) (x3 : Int32) (x4 : Int32), k80 σ x0 x1 x2 x3 x4 = some (σf, r) → G MtX12_takeBest X σ 80 [(0, rv x0), (1, .int x1), (2, .int x2), (3, .int x3), (4, .int x4)] []) {σ : St} {x0 : Nat} {x1 : Int32} {x2 : Int32} {x3 : Int32} {x4 : Int32} {y0 : Int32} (hf : fX12_takeBest_113 k40 k80 σ x0 x1 x2 x3 x4 y0 = some (σf, r)) : G MtX12_takeBest X σ 113 [(0, rv x0), (1, .int x1), (2, .int x2), (3, .int x3), (4, .int x4)] [.int y0] := by
  unfold fX12_takeBest_113 at hf
  refine g_istore (i := 5) (L' := [(5, .int y0), (0, rv x0), (1, .int x1), (2, .int x2), (3, .int x3), (4, .int x4)]) dX12_takeBest_113 (Nat.le_of_ble_eq_true rfl) rfl ?_
  refine g_aload_n (j := 1) dX12_takeBest_115 rfl rfl ?_
  refine g_iconst (v := 4) dX12_takeBest_116 (by decide) ?_
  refine g_bipush (v := 9) dX12_takeBest_117 (by decide) ?_
  obtain ⟨_, h3, hf⟩ := ob hf
  obtain ⟨σ1, v2, eσ1, hf⟩ := cb_el hf
  refine g_callV_v dX12_takeBest_119 (wX12_copies _ eσ1) (okX12_copies _ (by decide) (by decide)) (ckK_el h3) hc16 t_1927 t_1929 s_X12_copies rfl (Nat.le_trans (cat_le _) (Nat.le_of_ble_eq_true rfl)) rfl ?_
  refine g_aload_n (j := 1) dX12_takeBest_122 rfl rfl ?_
  refine g_iconst (v := 5) dX12_takeBest_123 (by decide) ?_
  refine g_bipush (v := 10) dX12_takeBest_124 (by decide) ?_
  obtain ⟨_, h6, hf⟩ := ob hf
  obtain ⟨σ4, v5, eσ4, hf⟩ := cb_el hf
  refine g_callV_v dX12_takeBest_126 (wX12_copies _ eσ4) (okX12_copies _ (by decide) (by decide)) (ckK_el h6) hc16 t_1927 t_1929 s_X12_copies rfl (Nat.le_trans (cat_le _) (Nat.le_of_ble_eq_true rfl)) rfl ?_
  refine g_iload (j := 0) dX12_takeBest_129 rfl ?_
  refine g_if_eq (tgt := 161) dX12_takeBest_131 (by decide) (fun c7 => ?_) (fun c7 => ?_)
  · rw [if_pos c7] at hf
    refine g_sub (L' := [(0, rv x0), (1, .int x1), (2, .int x2), (3, .int x3), (4, .int x4)]) [1, 2, 3, 4, 5] rfl ?_
    exact bX12_takeBest_161 hX1 hX2 hk40 hk80 hf
  · rw [if_neg c7] at hf
    refine g_aload_n (j := 1) dX12_takeBest_134 rfl rfl ?_
    refine g_bipush (v := 6) dX12_takeBest_135 (by decide) ?_
    refine g_iconst (v := 1) dX12_takeBest_137 (by decide) ?_
    obtain ⟨_, h10, hf⟩ := ob hf
    obtain ⟨σ8, v9, eσ8, hf⟩ := cb_el hf
    refine g_callV_v dX12_takeBest_138 (wX12_puts _ eσ8) (okX12_puts _ (by decide) (by decide)) (ckK_el h10) hc16 t_1911 t_1913 s_X12_puts rfl (Nat.le_trans (cat_le _) (Nat.le_of_ble_eq_true rfl)) rfl ?_
    refine g_aload_n (j := 1) dX12_takeBest_141 rfl rfl ?_
    refine g_iconst (v := 4) dX12_takeBest_142 (by decide) ?_
    refine g_bipush (v := 6) dX12_takeBest_143 (by decide) ?_
    obtain ⟨_, h13, hf⟩ := ob hf
    obtain ⟨σ11, v12, eσ11, hf⟩ := cb_el hf
    refine g_callV_v dX12_takeBest_145 (wX12_adds _ eσ11) (okX12_adds _ (by decide) (by decide)) (ckK_el h13) hc16 t_2302 t_2304 s_X12_adds rfl (Nat.le_trans (cat_le _) (Nat.le_of_ble_eq_true rfl)) rfl ?_
    refine g_aload_n (j := 1) dX12_takeBest_148 rfl rfl ?_
    refine g_iconst (v := 5) dX12_takeBest_149 (by decide) ?_
    refine g_iconst (v := 1) dX12_takeBest_150 (by decide) ?_
    obtain ⟨_, h16, hf⟩ := ob hf
    obtain ⟨σ14, v15, eσ14, hf⟩ := cb_el hf
    refine g_callV_v dX12_takeBest_151 (wX12_copies _ eσ14) (okX12_copies _ (by decide) (by decide)) (ckK_el h16) hc16 t_1927 t_1929 s_X12_copies rfl (Nat.le_trans (cat_le _) (Nat.le_of_ble_eq_true rfl)) rfl ?_
    refine g_aload_n (j := 1) dX12_takeBest_154 rfl rfl ?_
    refine g_iconst (v := 5) dX12_takeBest_155 (by decide) ?_
    refine g_bipush (v := 10) dX12_takeBest_156 (by decide) ?_
    obtain ⟨_, h19, hf⟩ := ob hf
    obtain ⟨σ17, v18, eσ17, hf⟩ := cb_el hf
    refine g_callV_v dX12_takeBest_158 (wX12_takesAway _ eσ17) (okX12_takesAway _ (by decide) (by decide)) (ckK_el h19) hc16 t_2306 t_2308 s_X12_takesAway rfl (Nat.le_trans (cat_le _) (Nat.le_of_ble_eq_true rfl)) rfl ?_
    refine g_sub (L' := [(0, rv x0), (1, .int x1), (2, .int x2), (3, .int x3), (4, .int x4)]) [1, 2, 3, 4, 5] rfl ?_
    exact bX12_takeBest_161 hX1 hX2 hk40 hk80 hf

set_option maxRecDepth 100000 in
set_option maxHeartbeats 4000000 in
theorem bX12_takeBest_105 {X : Xt} {σf : St} {r : Int32} (hX1 : X.2.2.1 = σf) (hX2 : X.2.2.2 = .inl (some (.int r))) {k40 : St → Nat → Int32 → Int32 → Int32 → Option (St × Int32)} {k80 : St → Nat → Int32 → Int32 → Int32 → Int32 → Option (St × Int32)} (hk40 : ∀ (σ : St) (x0 : Nat) (x1 : Int32) (x2 : Int32) (x3 : Int32), k40 σ x0 x1 x2 x3 = some (σf, r) → G MtX12_takeBest X σ 40 [(0, rv x0), (1, .int x1), (2, .int x2), (3, .int x3)] []) (hk80 : ∀ (σ : St) (x0 : Nat) (x1 : Int32) (x2 : Int32) (x3 : Int32) (x4 : Int32), k80 σ x0 x1 x2 x3 x4 = some (σf, r) → G MtX12_takeBest X σ 80 [(0, rv x0), (1, .int x1), (2, .int x2), (3, .int x3), (4, .int x4)] []) {σ : St} {x0 : Nat} {x1 : Int32} {x2 : Int32} {x3 : Int32} {x4 : Int32} {y0 : Int32} {y1 : Int32} (hf : fX12_takeBest_105 k40 k80 σ x0 x1 x2 x3 x4 y0 y1 = some (σf, r)) : G MtX12_takeBest X σ 105 [(0, rv x0), (1, .int x1), (2, .int x2), (3, .int x3), (4, .int x4)] [.int y1, .int y0] := by
  unfold fX12_takeBest_105 at hf
  refine g_icmp_ne (tgt := 112) dX12_takeBest_105 (by decide) (fun c1 => ?_) (fun c1 => ?_)
  · rw [if_neg c1] at hf
    refine g_iconst (v := 0) dX12_takeBest_112 (by decide) ?_
    exact bX12_takeBest_113 hX1 hX2 hk40 hk80 hf
  · rw [if_pos c1] at hf
    refine g_iconst (v := 1) dX12_takeBest_108 (by decide) ?_
    refine g_goto (tgt := 113) dX12_takeBest_109 (by decide) ?_
    exact bX12_takeBest_113 hX1 hX2 hk40 hk80 hf

set_option maxRecDepth 100000 in
set_option maxHeartbeats 4000000 in
theorem bX12_takeBest_96 {X : Xt} {σf : St} {r : Int32} (hX1 : X.2.2.1 = σf) (hX2 : X.2.2.2 = .inl (some (.int r))) {k40 : St → Nat → Int32 → Int32 → Int32 → Option (St × Int32)} {k80 : St → Nat → Int32 → Int32 → Int32 → Int32 → Option (St × Int32)} (hk40 : ∀ (σ : St) (x0 : Nat) (x1 : Int32) (x2 : Int32) (x3 : Int32), k40 σ x0 x1 x2 x3 = some (σf, r) → G MtX12_takeBest X σ 40 [(0, rv x0), (1, .int x1), (2, .int x2), (3, .int x3)] []) (hk80 : ∀ (σ : St) (x0 : Nat) (x1 : Int32) (x2 : Int32) (x3 : Int32) (x4 : Int32), k80 σ x0 x1 x2 x3 x4 = some (σf, r) → G MtX12_takeBest X σ 80 [(0, rv x0), (1, .int x1), (2, .int x2), (3, .int x3), (4, .int x4)] []) {σ : St} {x0 : Nat} {x1 : Int32} {x2 : Int32} {x3 : Int32} {x4 : Int32} {y0 : Int32} (hf : fX12_takeBest_96 k40 k80 σ x0 x1 x2 x3 x4 y0 = some (σf, r)) : G MtX12_takeBest X σ 96 [(0, rv x0), (1, .int x1), (2, .int x2), (3, .int x3), (4, .int x4)] [.int y0] := by
  unfold fX12_takeBest_96 at hf
  refine g_iload_n (j := 2) dX12_takeBest_96 rfl rfl ?_
  refine g_if_ge (tgt := 104) dX12_takeBest_97 (by decide) (fun c1 => ?_) (fun c1 => ?_)
  · rw [if_pos c1] at hf
    refine g_iconst (v := 0) dX12_takeBest_104 (by decide) ?_
    exact bX12_takeBest_105 hX1 hX2 hk40 hk80 hf
  · rw [if_neg c1] at hf
    refine g_iconst (v := 1) dX12_takeBest_100 (by decide) ?_
    refine g_goto (tgt := 105) dX12_takeBest_101 (by decide) ?_
    exact bX12_takeBest_105 hX1 hX2 hk40 hk80 hf

set_option maxRecDepth 100000 in
set_option maxHeartbeats 4000000 in
theorem bX12_takeBest_80 {X : Xt} {σf : St} {r : Int32} (hX1 : X.2.2.1 = σf) (hX2 : X.2.2.2 = .inl (some (.int r))) {k40 : St → Nat → Int32 → Int32 → Int32 → Option (St × Int32)} (hk40 : ∀ (σ : St) (x0 : Nat) (x1 : Int32) (x2 : Int32) (x3 : Int32), k40 σ x0 x1 x2 x3 = some (σf, r) → G MtX12_takeBest X σ 40 [(0, rv x0), (1, .int x1), (2, .int x2), (3, .int x3)] []) : ∀ (n : Nat) (σ : St) (x0 : Nat) (x1 : Int32) (x2 : Int32) (x3 : Int32) (x4 : Int32), fX12_takeBest_80 k40 n σ x0 x1 x2 x3 x4 = some (σf, r) → G MtX12_takeBest X σ 80 [(0, rv x0), (1, .int x1), (2, .int x2), (3, .int x3), (4, .int x4)] [] := by
  intro n
  induction n with
  | zero => intro σ x0 x1 x2 x3 x4 hf; cases hf
  | succ n ih =>
    intro σ x0 x1 x2 x3 x4 hf
    rw [fX12_takeBest_80] at hf
    refine g_iload (j := 4) dX12_takeBest_80 rfl ?_
    refine g_iconst (v := 2) dX12_takeBest_82 (by decide) ?_
    refine g_icmp_ge (tgt := 181) dX12_takeBest_83 (by decide) (fun c1 => ?_) (fun c1 => ?_)
    · rw [if_pos c1] at hf
      obtain ⟨v2, ev2, hf⟩ := nm_el hf
      refine g_iinc (L' := [(3, .int v2), (0, rv x0), (1, .int x1), (2, .int x2), (4, .int x4)]) (j := 3) (v := v2) dX12_takeBest_181 rfl (by rw [ev2]; rfl) (Nat.le_of_ble_eq_true rfl) rfl ?_
      refine g_goto (tgt := 40) dX12_takeBest_184 (by decide) ?_
      refine g_sub (L' := [(0, rv x0), (1, .int x1), (2, .int x2), (3, .int v2)]) [1, 2, 3, 0] rfl ?_
      exact hk40 _ _ _ _ _ hf
    · rw [if_neg c1] at hf
      refine g_iload (j := 4) dX12_takeBest_86 rfl ?_
      refine g_if_ne (tgt := 95) dX12_takeBest_88 (by decide) (fun c3 => ?_) (fun c3 => ?_)
      · rw [if_neg c3] at hf
        refine g_iconst (v := 0) dX12_takeBest_95 (by decide) ?_
        exact bX12_takeBest_96 hX1 hX2 hk40 (fun σ x0 x1 x2 x3 x4 hf => ih σ x0 x1 x2 x3 x4 hf) hf
      · rw [if_pos c3] at hf
        refine g_iconst (v := 1) dX12_takeBest_91 (by decide) ?_
        refine g_goto (tgt := 96) dX12_takeBest_92 (by decide) ?_
        exact bX12_takeBest_96 hX1 hX2 hk40 (fun σ x0 x1 x2 x3 x4 hf => ih σ x0 x1 x2 x3 x4 hf) hf

set_option maxRecDepth 100000 in
set_option maxHeartbeats 4000000 in
theorem bX12_takeBest_40 {X : Xt} {σf : St} {r : Int32} (hX1 : X.2.2.1 = σf) (hX2 : X.2.2.2 = .inl (some (.int r))) : ∀ (n : Nat) (σ : St) (x0 : Nat) (x1 : Int32) (x2 : Int32) (x3 : Int32), fX12_takeBest_40 n σ x0 x1 x2 x3 = some (σf, r) → G MtX12_takeBest X σ 40 [(0, rv x0), (1, .int x1), (2, .int x2), (3, .int x3)] [] := by
  intro n
  induction n with
  | zero => intro σ x0 x1 x2 x3 hf; cases hf
  | succ n ih =>
    intro σ x0 x1 x2 x3 hf
    rw [fX12_takeBest_40] at hf
    refine g_iload_n (j := 3) dX12_takeBest_40 rfl rfl ?_
    refine g_iload_n (j := 1) dX12_takeBest_41 rfl rfl ?_
    refine g_icmp_gt (tgt := 187) dX12_takeBest_42 (by decide) (fun c1 => ?_) (fun c1 => ?_)
    · rw [if_pos c1] at hf
      refine g_aload_n (j := 0) dX12_takeBest_187 rfl rfl ?_
      refine g_bipush (v := 6) dX12_takeBest_188 (by decide) ?_
      refine g_bipush (v := 13) dX12_takeBest_190 (by decide) ?_
      obtain ⟨_, h4, hf⟩ := ob hf
      obtain ⟨σ2, v3, eσ2, hf⟩ := cb_el hf
      refine g_callV_v dX12_takeBest_192 (wX12_copies _ eσ2) (okX12_copies _ (by decide) (by decide)) (ckK_el h4) hc16 t_1927 t_1929 s_X12_copies rfl (Nat.le_trans (cat_le _) (Nat.le_of_ble_eq_true rfl)) rfl ?_
      refine g_aload_n (j := 0) dX12_takeBest_195 rfl rfl ?_
      refine g_bipush (v := 7) dX12_takeBest_196 (by decide) ?_
      refine g_aload_n (j := 0) dX12_takeBest_198 rfl rfl ?_
      obtain ⟨v5, ev5, hf⟩ := ob hf
      refine g_getI dX12_takeBest_199 ev5 t_2048 hin16 hc16 (by decide) rfl ?_
      obtain ⟨_, h8, hf⟩ := ob hf
      obtain ⟨σ6, v7, eσ6, hf⟩ := cb_el hf
      refine g_callV_v dX12_takeBest_202 (wX12_puts _ eσ6) (okX12_puts _ (by decide) (by decide)) (ckK_el h8) hc16 t_1911 t_1913 s_X12_puts rfl (Nat.le_trans (cat_le _) (Nat.le_of_ble_eq_true rfl)) rfl ?_
      refine g_aload_n (j := 0) dX12_takeBest_205 rfl rfl ?_
      obtain ⟨v9, ev9, hf⟩ := ob hf
      refine g_getI dX12_takeBest_206 ev9 t_2024 hin16 hc16 (by decide) rfl ?_
      refine g_istore_n (i := 3) (L' := [(3, .int v9), (0, rv x0), (1, .int x1), (2, .int x2)]) dX12_takeBest_209 rfl (Nat.le_of_ble_eq_true rfl) rfl ?_
      refine g_aload_n (j := 1) dX12_takeBest_210 rfl rfl ?_
      refine g_aload_n (j := 1) dX12_takeBest_211 rfl rfl ?_
      refine g_aload_n (j := 1) dX12_takeBest_212 rfl rfl ?_
      obtain ⟨v10, ev10, hf⟩ := ob hf
      refine g_getI dX12_takeBest_213 ev10 t_2047 hin16 hc16 (by decide) rfl ?_
      obtain ⟨_, h13, hf⟩ := ob hf
      obtain ⟨σ11, v12, eσ11, hf⟩ := cb_el hf
      refine g_callV_i dX12_takeBest_216 (wX12_keepsMade _ eσ11) (okX12_keepsMade _ (by decide) (by decide)) (ckK_el h13) hc16 t_2314 t_2316 s_X12_keepsMade rfl (Nat.le_trans (cat_le _) (Nat.le_of_ble_eq_true rfl)) rfl ?_
      obtain ⟨_, h16, hf⟩ := ob hf
      obtain ⟨σ14, v15, eσ14, hf⟩ := cb_el hf
      refine g_callV_i dX12_takeBest_219 (wX12_becomes _ eσ14) (okX12_becomes _ (by decide) (by decide)) (ckK_el h16) hc16 t_2615 t_2617 s_X12_becomes rfl (Nat.le_trans (cat_le _) (Nat.le_of_ble_eq_true rfl)) rfl ?_
      refine g_istore (i := 4) (L' := [(4, .int v15), (3, .int v9), (0, rv x0), (1, .int x1), (2, .int x2)]) dX12_takeBest_222 (Nat.le_of_ble_eq_true rfl) rfl ?_
      refine g_aload_n (j := 2) dX12_takeBest_224 rfl rfl ?_
      refine g_aload_n (j := 2) dX12_takeBest_225 rfl rfl ?_
      obtain ⟨v17, ev17, hf⟩ := ob hf
      refine g_getI dX12_takeBest_226 ev17 t_2024 hin16 hc16 (by decide) rfl ?_
      refine g_iload_n (j := 1) dX12_takeBest_229 rfl rfl ?_
      obtain ⟨_, h20, hf⟩ := ob hf
      obtain ⟨σ18, v19, eσ18, hf⟩ := cb_el hf
      refine g_callV_i dX12_takeBest_230 (wX12_order _ eσ18) (okX12_order _ (by decide) (by decide)) (ckK_el h20) hc16 t_2471 t_2473 s_X12_order rfl (Nat.le_trans (cat_le _) (Nat.le_of_ble_eq_true rfl)) rfl ?_
      exact g_iret dX12_takeBest_233 rfl rfl hX2 hX1 hf
    · rw [if_neg c1] at hf
      refine g_aload_n (j := 0) dX12_takeBest_45 rfl rfl ?_
      refine g_iconst (v := 0) dX12_takeBest_46 (by decide) ?_
      refine g_aload_n (j := 0) dX12_takeBest_47 rfl rfl ?_
      obtain ⟨v21, ev21, hf⟩ := ob hf
      refine g_getI dX12_takeBest_48 ev21 t_2024 hin16 hc16 (by decide) rfl ?_
      refine g_iconst (v := 0) dX12_takeBest_51 (by decide) ?_
      obtain ⟨_, h24, hf⟩ := ob hf
      obtain ⟨σ22, v23, eσ22, hf⟩ := cb_el hf
      refine g_callV_v dX12_takeBest_52 (wX12_loads _ eσ22) (okX12_loads _ (by decide) (by decide)) (ckK_el h24) hc16 t_2439 t_2441 s_X12_loads rfl (Nat.le_trans (cat_le _) (Nat.le_of_ble_eq_true rfl)) rfl ?_
      refine g_aload_n (j := 0) dX12_takeBest_55 rfl rfl ?_
      refine g_iconst (v := 1) dX12_takeBest_56 (by decide) ?_
      refine g_aload_n (j := 0) dX12_takeBest_57 rfl rfl ?_
      obtain ⟨v25, ev25, hf⟩ := ob hf
      refine g_getI dX12_takeBest_58 ev25 t_2024 hin16 hc16 (by decide) rfl ?_
      refine g_iconst (v := 1) dX12_takeBest_61 (by decide) ?_
      obtain ⟨_, h28, hf⟩ := ob hf
      obtain ⟨σ26, v27, eσ26, hf⟩ := cb_el hf
      refine g_callV_v dX12_takeBest_62 (wX12_loads _ eσ26) (okX12_loads _ (by decide) (by decide)) (ckK_el h28) hc16 t_2439 t_2441 s_X12_loads rfl (Nat.le_trans (cat_le _) (Nat.le_of_ble_eq_true rfl)) rfl ?_
      refine g_aload_n (j := 0) dX12_takeBest_65 rfl rfl ?_
      refine g_iconst (v := 0) dX12_takeBest_66 (by decide) ?_
      refine g_iload_n (j := 3) dX12_takeBest_67 rfl rfl ?_
      obtain ⟨_, h31, hf⟩ := ob hf
      obtain ⟨σ29, v30, eσ29, hf⟩ := cb_el hf
      refine g_callV_v dX12_takeBest_68 (wX12_times _ eσ29) (okX12_times _ (by decide) (by decide)) (ckK_el h31) hc16 t_1947 t_1949 s_X12_times rfl (Nat.le_trans (cat_le _) (Nat.le_of_ble_eq_true rfl)) rfl ?_
      refine g_aload_n (j := 0) dX12_takeBest_71 rfl rfl ?_
      refine g_iconst (v := 0) dX12_takeBest_72 (by decide) ?_
      refine g_iconst (v := 1) dX12_takeBest_73 (by decide) ?_
      obtain ⟨_, h34, hf⟩ := ob hf
      obtain ⟨σ32, v33, eσ32, hf⟩ := cb_el hf
      refine g_callV_v dX12_takeBest_74 (wX12_divides _ eσ32) (okX12_divides _ (by decide) (by decide)) (ckK_el h34) hc16 t_1931 t_1933 s_X12_divides rfl (Nat.le_trans (cat_le _) (Nat.le_of_ble_eq_true rfl)) rfl ?_
      refine g_iconst (v := 0) dX12_takeBest_77 (by decide) ?_
      refine g_istore (i := 4) (L' := [(4, .int 0), (0, rv x0), (1, .int x1), (2, .int x2), (3, .int x3)]) dX12_takeBest_78 (Nat.le_of_ble_eq_true rfl) rfl ?_
      refine g_sub (L' := [(0, rv x0), (1, .int x1), (2, .int x2), (3, .int x3), (4, .int 0)]) [1, 2, 3, 4, 0] rfl ?_
      exact bX12_takeBest_80 hX1 hX2 (fun σ x0 x1 x2 x3 hf => ih σ x0 x1 x2 x3 hf) FU _ _ _ _ _ _ hf

set_option maxRecDepth 100000 in
set_option maxHeartbeats 4000000 in
theorem wX12_takeBest (l : Launch) {σ σf : St} {x0 : Nat} {x1 : Int32} {r : Int32} (hf : fX12_takeBest σ x0 x1 = some (σf, r)) : Con MtX12_takeBest yX12_takeBest l σ [rv x0, .int x1] σf (some (.int r)) := by
  refine Con.of (by decide +kernel) rfl (fun h => absurd (show false = true from h) (by decide)) (by simp only [sl_n, sl_r, sl_i, sl_l]; exact Nat.le_of_ble_eq_true rfl) ?_
  rw [show lv_args 0 [rv x0, .int x1] = [(0, rv x0), (1, .int x1)] by simp only [la_n, la_r, la_i, la_l] <;> rfl]
  have hX1 : ((l, σ, σf, .inl (some (.int r))) : Xt).2.2.1 = σf := rfl
  have hX2 : ((l, σ, σf, .inl (some (.int r))) : Xt).2.2.2 = .inl (some (.int r)) := rfl
  unfold fX12_takeBest at hf
  refine g_aload_n (j := 0) dX12_takeBest_0 rfl rfl ?_
  refine g_iconst (v := 0) dX12_takeBest_1 (by decide) ?_
  obtain ⟨σ1, eσ1, hf⟩ := ob hf
  refine g_putI dX12_takeBest_2 eσ1 (Or.inl t_1967) hin16 hc16 (by decide) hty16 hnm16 (Or.inl rfl) rfl rfl rfl ?_
  refine g_aload_n (j := 0) dX12_takeBest_5 rfl rfl ?_
  refine g_iload_n (j := 1) dX12_takeBest_6 rfl rfl ?_
  refine g_iconst (v := 1) dX12_takeBest_7 (by decide) ?_
  refine g_sipush (v := 1000) dX12_takeBest_8 (by decide) ?_
  obtain ⟨σ2, v3, eσ2, hf⟩ := cb_el hf
  refine g_callS_i dX12_takeBest_11 (wX12_in _ eσ2) (okX12_in _ (by decide) (by decide)) t_2257 t_2258 rfl (Nat.le_trans (cat_le _) (Nat.le_of_ble_eq_true rfl)) rfl ?_
  refine g_iconst (v := 1) dX12_takeBest_14 (by decide) ?_
  obtain ⟨_, h6, hf⟩ := ob hf
  obtain ⟨σ4, v5, eσ4, hf⟩ := cb_el hf
  refine g_callV_i dX12_takeBest_15 (wX12_fails _ eσ4) (okX12_fails _ (by decide) (by decide)) (ckK_el h6) hc16 t_2225 t_2227 s_X12_fails rfl (Nat.le_trans (cat_le _) (Nat.le_of_ble_eq_true rfl)) rfl ?_
  refine g_if_eq (tgt := 23) dX12_takeBest_18 (by decide) (fun c7 => ?_) (fun c7 => ?_)
  · rw [if_pos c7] at hf
    refine g_aload_n (j := 0) dX12_takeBest_23 rfl rfl ?_
    refine g_iconst (v := 0) dX12_takeBest_24 (by decide) ?_
    obtain ⟨σ8, eσ8, hf⟩ := ob hf
    refine g_putI dX12_takeBest_25 eσ8 (Or.inl t_2048) hin16 hc16 (by decide) hty16 hnm16 (Or.inl rfl) rfl rfl rfl ?_
    refine g_aload_n (j := 0) dX12_takeBest_28 rfl rfl ?_
    obtain ⟨v9, ev9, hf⟩ := ob hf
    refine g_getF dX12_takeBest_29 ev9 t_1970 hin16 hc16 (by decide) rfl ?_
    refine g_aload_n (j := 0) dX12_takeBest_32 rfl rfl ?_
    obtain ⟨v10, ev10, hf⟩ := ob hf
    refine g_getI dX12_takeBest_33 ev10 t_2024 hin16 hc16 (by decide) rfl ?_
    obtain ⟨v11, ev11, hf⟩ := ob hf
    refine g_iald dX12_takeBest_36 ev11 ?_
    refine g_istore_n (i := 2) (L' := [(2, .int v11), (0, rv x0), (1, .int x1)]) dX12_takeBest_37 rfl (Nat.le_of_ble_eq_true rfl) rfl ?_
    refine g_iconst (v := 1) dX12_takeBest_38 (by decide) ?_
    refine g_istore_n (i := 3) (L' := [(3, .int 1), (2, .int v11), (0, rv x0), (1, .int x1)]) dX12_takeBest_39 rfl (Nat.le_of_ble_eq_true rfl) rfl ?_
    refine g_sub (L' := [(0, rv x0), (1, .int x1), (2, .int v11), (3, .int 1)]) [2, 3, 1, 0] rfl ?_
    exact bX12_takeBest_40 hX1 hX2 FU _ _ _ _ _ hf
  · rw [if_neg c7] at hf
    refine g_iconst (v := 0) dX12_takeBest_21 (by decide) ?_
    exact g_iret dX12_takeBest_22 rfl rfl hX2 hX1 hf

theorem okX12_takeBest (M : Mt) (h1 : 8 + 1 ≤ M.2.2.2.2.1) (h2 : 8 + (6 + 11) + 255 ≤ M.2.2.2.2.2.1) : CallOk M MtX12_takeBest yX12_takeBest 1 := ⟨t_2702, h1, h2, ⟨by decide, by decide⟩, by decide +kernel, t_16⟩
abbrev MtX12_findsUnits : Mt := (cX12_findsUnits, 2, "ExactlySaidModel", (Option.some Jvm.ClassFile.FieldType.int), 8, 255, false)
set_option maxRecDepth 100000 in
set_option maxHeartbeats 4000000 in
theorem bX12_findsUnits_108 {X : Xt} {σf : St} {r : Int32} (hX1 : X.2.2.1 = σf) (hX2 : X.2.2.2 = .inl (some (.int r))) {k51 : St → Nat → Int32 → Option (St × Int32)} (hk51 : ∀ (σ : St) (x0 : Nat) (x1 : Int32), k51 σ x0 x1 = some (σf, r) → G MtX12_findsUnits X σ 51 [(0, rv x0), (1, .int x1)] []) {σ : St} {x0 : Nat} {x1 : Int32} (hf : fX12_findsUnits_108 k51 σ x0 x1 = some (σf, r)) : G MtX12_findsUnits X σ 108 [(0, rv x0), (1, .int x1)] [] := by
  unfold fX12_findsUnits_108 at hf
  refine g_aload_n (j := 0) dX12_findsUnits_108 rfl rfl ?_
  refine g_iconst (v := 5) dX12_findsUnits_109 (by decide) ?_
  refine g_bipush (v := 6) dX12_findsUnits_110 (by decide) ?_
  obtain ⟨_, h3, hf⟩ := ob hf
  obtain ⟨σ1, v2, eσ1, hf⟩ := cb_el hf
  refine g_callV_v dX12_findsUnits_112 (wX12_copies _ eσ1) (okX12_copies _ (by decide) (by decide)) (ckK_el h3) hc16 t_1927 t_1929 s_X12_copies rfl (Nat.le_trans (cat_le _) (Nat.le_of_ble_eq_true rfl)) rfl ?_
  refine g_aload_n (j := 0) dX12_findsUnits_115 rfl rfl ?_
  refine g_bipush (v := 7) dX12_findsUnits_116 (by decide) ?_
  refine g_iconst (v := 1) dX12_findsUnits_118 (by decide) ?_
  obtain ⟨_, h6, hf⟩ := ob hf
  obtain ⟨σ4, v5, eσ4, hf⟩ := cb_el hf
  refine g_callV_v dX12_findsUnits_119 (wX12_puts _ eσ4) (okX12_puts _ (by decide) (by decide)) (ckK_el h6) hc16 t_1911 t_1913 s_X12_puts rfl (Nat.le_trans (cat_le _) (Nat.le_of_ble_eq_true rfl)) rfl ?_
  refine g_aload_n (j := 0) dX12_findsUnits_122 rfl rfl ?_
  obtain ⟨v7, ev7, hf⟩ := ob hf
  refine g_getF dX12_findsUnits_123 ev7 t_2049 hin16 hc16 (by decide) rfl ?_
  refine g_iload_n (j := 1) dX12_findsUnits_126 rfl rfl ?_
  refine g_aload_n (j := 0) dX12_findsUnits_127 rfl rfl ?_
  refine g_iconst (v := 1) dX12_findsUnits_128 (by decide) ?_
  obtain ⟨_, h10, hf⟩ := ob hf
  obtain ⟨σ8, v9, eσ8, hf⟩ := cb_el hf
  refine g_callV_i dX12_findsUnits_129 (wX12_keepsMade _ eσ8) (okX12_keepsMade _ (by decide) (by decide)) (ckK_el h10) hc16 t_2314 t_2316 s_X12_keepsMade rfl (Nat.le_trans (cat_le _) (Nat.le_of_ble_eq_true rfl)) rfl ?_
  obtain ⟨σ11, eσ11, hf⟩ := ob hf
  refine g_iast dX12_findsUnits_132 eσ11 ?_
  refine g_aload_n (j := 0) dX12_findsUnits_133 rfl rfl ?_
  obtain ⟨v12, ev12, hf⟩ := ob hf
  refine g_getF dX12_findsUnits_134 ev12 t_2049 hin16 hc16 (by decide) rfl ?_
  refine g_iload_n (j := 1) dX12_findsUnits_137 rfl rfl ?_
  obtain ⟨v13, ev13, hf⟩ := ob hf
  refine g_iald dX12_findsUnits_138 ev13 ?_
  refine g_iconst (v := (-1)) dX12_findsUnits_139 (by decide) ?_
  refine g_icmp_ne (tgt := 145) dX12_findsUnits_140 (by decide) (fun c14 => ?_) (fun c14 => ?_)
  · rw [if_neg c14] at hf
    obtain ⟨v15, ev15, hf⟩ := nm_el hf
    refine g_iinc (L' := [(1, .int v15), (0, rv x0)]) (j := 1) (v := v15) dX12_findsUnits_145 rfl (by rw [ev15]; rfl) (Nat.le_of_ble_eq_true rfl) (by simp [rv_cat]) ?_
    refine g_aload_n (j := 1) dX12_findsUnits_148 rfl rfl ?_
    refine g_bipush (v := 6) dX12_findsUnits_149 (by decide) ?_
    refine g_bipush (v := 13) dX12_findsUnits_151 (by decide) ?_
    refine g_iconst (v := 5) dX12_findsUnits_153 (by decide) ?_
    obtain ⟨_, h18, hf⟩ := ob hf
    obtain ⟨σ16, v17, eσ16, hf⟩ := cb_el hf
    refine g_callV_v dX12_findsUnits_154 (wX12_multiplies _ eσ16) (okX12_multiplies _ (by decide) (by decide)) (ckK_el h18) hc16 t_2310 t_2312 s_X12_multiplies rfl (Nat.le_trans (cat_le _) (Nat.le_of_ble_eq_true rfl)) rfl ?_
    refine g_aload_n (j := 1) dX12_findsUnits_157 rfl rfl ?_
    refine g_bipush (v := 6) dX12_findsUnits_158 (by decide) ?_
    refine g_bipush (v := 14) dX12_findsUnits_160 (by decide) ?_
    obtain ⟨_, h21, hf⟩ := ob hf
    obtain ⟨σ19, v20, eσ19, hf⟩ := cb_el hf
    refine g_callV_v dX12_findsUnits_162 (wX12_takesAway _ eσ19) (okX12_takesAway _ (by decide) (by decide)) (ckK_el h21) hc16 t_2306 t_2308 s_X12_takesAway rfl (Nat.le_trans (cat_le _) (Nat.le_of_ble_eq_true rfl)) rfl ?_
    refine g_aload_n (j := 1) dX12_findsUnits_165 rfl rfl ?_
    refine g_bipush (v := 7) dX12_findsUnits_166 (by decide) ?_
    refine g_bipush (v := 14) dX12_findsUnits_168 (by decide) ?_
    refine g_iconst (v := 5) dX12_findsUnits_170 (by decide) ?_
    obtain ⟨_, h24, hf⟩ := ob hf
    obtain ⟨σ22, v23, eσ22, hf⟩ := cb_el hf
    refine g_callV_v dX12_findsUnits_171 (wX12_multiplies _ eσ22) (okX12_multiplies _ (by decide) (by decide)) (ckK_el h24) hc16 t_2310 t_2312 s_X12_multiplies rfl (Nat.le_trans (cat_le _) (Nat.le_of_ble_eq_true rfl)) rfl ?_
    refine g_aload_n (j := 1) dX12_findsUnits_174 rfl rfl ?_
    obtain ⟨_, h27, hf⟩ := ob hf
    obtain ⟨σ25, v26, eσ25, hf⟩ := cb_el hf
    refine g_callV_v dX12_findsUnits_175 (wX12_lowers _ eσ25) (okX12_lowers _ (by decide) (by decide)) (ckK_el h27) hc16 t_1919 t_1921 s_X12_lowers rfl (Nat.le_trans (cat_le _) (Nat.le_of_ble_eq_true rfl)) rfl ?_
    refine g_aload_n (j := 1) dX12_findsUnits_178 rfl rfl ?_
    refine g_bipush (v := 6) dX12_findsUnits_179 (by decide) ?_
    obtain ⟨_, h30, hf⟩ := ob hf
    obtain ⟨σ28, v29, eσ28, hf⟩ := cb_el hf
    refine g_callV_i dX12_findsUnits_181 (wX12_isSmall _ eσ28) (okX12_isSmall _ (by decide) (by decide)) (ckK_el h30) hc16 t_1959 t_1961 s_X12_isSmall rfl (Nat.le_trans (cat_le _) (Nat.le_of_ble_eq_true rfl)) rfl ?_
    refine g_if_eq (tgt := 196) dX12_findsUnits_184 (by decide) (fun c31 => ?_) (fun c31 => ?_)
    · rw [if_pos c31] at hf
      refine g_iconst (v := (-1)) dX12_findsUnits_196 (by decide) ?_
      exact g_iret dX12_findsUnits_197 rfl rfl hX2 hX1 hf
    · rw [if_neg c31] at hf
      refine g_aload_n (j := 1) dX12_findsUnits_187 rfl rfl ?_
      refine g_bipush (v := 7) dX12_findsUnits_188 (by decide) ?_
      obtain ⟨_, h34, hf⟩ := ob hf
      obtain ⟨σ32, v33, eσ32, hf⟩ := cb_el hf
      refine g_callV_i dX12_findsUnits_190 (wX12_isSmall _ eσ32) (okX12_isSmall _ (by decide) (by decide)) (ckK_el h34) hc16 t_1959 t_1961 s_X12_isSmall rfl (Nat.le_trans (cat_le _) (Nat.le_of_ble_eq_true rfl)) rfl ?_
      refine g_if_ne (tgt := 198) dX12_findsUnits_193 (by decide) (fun c35 => ?_) (fun c35 => ?_)
      · rw [if_neg c35] at hf
        refine g_aload_n (j := 1) dX12_findsUnits_198 rfl rfl ?_
        refine g_bipush (v := 13) dX12_findsUnits_199 (by decide) ?_
        refine g_bipush (v := 6) dX12_findsUnits_201 (by decide) ?_
        obtain ⟨_, h38, hf⟩ := ob hf
        obtain ⟨σ36, v37, eσ36, hf⟩ := cb_el hf
        refine g_callV_v dX12_findsUnits_203 (wX12_copies _ eσ36) (okX12_copies _ (by decide) (by decide)) (ckK_el h38) hc16 t_1927 t_1929 s_X12_copies rfl (Nat.le_trans (cat_le _) (Nat.le_of_ble_eq_true rfl)) rfl ?_
        refine g_aload_n (j := 1) dX12_findsUnits_206 rfl rfl ?_
        refine g_bipush (v := 14) dX12_findsUnits_207 (by decide) ?_
        refine g_bipush (v := 7) dX12_findsUnits_209 (by decide) ?_
        obtain ⟨_, h41, hf⟩ := ob hf
        obtain ⟨σ39, v40, eσ39, hf⟩ := cb_el hf
        refine g_callV_v dX12_findsUnits_211 (wX12_copies _ eσ39) (okX12_copies _ (by decide) (by decide)) (ckK_el h41) hc16 t_1927 t_1929 s_X12_copies rfl (Nat.le_trans (cat_le _) (Nat.le_of_ble_eq_true rfl)) rfl ?_
        refine g_goto (tgt := 51) dX12_findsUnits_214 (by decide) ?_
        refine g_sub (L' := [(0, rv x0), (1, .int v15)]) [1, 0] rfl ?_
        exact hk51 _ _ _ hf
      · rw [if_pos c35] at hf
        refine g_iconst (v := (-1)) dX12_findsUnits_196 (by decide) ?_
        exact g_iret dX12_findsUnits_197 rfl rfl hX2 hX1 hf
  · rw [if_pos c14] at hf
    refine g_iconst (v := (-1)) dX12_findsUnits_143 (by decide) ?_
    exact g_iret dX12_findsUnits_144 rfl rfl hX2 hX1 hf

set_option maxRecDepth 100000 in
set_option maxHeartbeats 4000000 in
theorem bX12_findsUnits_51 {X : Xt} {σf : St} {r : Int32} (hX1 : X.2.2.1 = σf) (hX2 : X.2.2.2 = .inl (some (.int r))) : ∀ (n : Nat) (σ : St) (x0 : Nat) (x1 : Int32), fX12_findsUnits_51 n σ x0 x1 = some (σf, r) → G MtX12_findsUnits X σ 51 [(0, rv x0), (1, .int x1)] [] := by
  intro n
  induction n with
  | zero => intro σ x0 x1 hf; cases hf
  | succ n ih =>
    intro σ x0 x1 hf
    rw [fX12_findsUnits_51] at hf
    refine g_aload_n (j := 0) dX12_findsUnits_51 rfl rfl ?_
    obtain ⟨v1, ev1, hf⟩ := ob hf
    refine g_getF dX12_findsUnits_52 ev1 t_1969 hin16 hc16 (by decide) rfl ?_
    refine g_bipush (v := 13) dX12_findsUnits_55 (by decide) ?_
    obtain ⟨v2, ev2, hf⟩ := ob hf
    refine g_iald dX12_findsUnits_57 ev2 ?_
    refine g_if_le (tgt := 217) dX12_findsUnits_58 (by decide) (fun c3 => ?_) (fun c3 => ?_)
    · rw [if_pos c3] at hf
      refine g_iload_n (j := 1) dX12_findsUnits_217 rfl rfl ?_
      exact g_iret dX12_findsUnits_218 rfl rfl hX2 hX1 hf
    · rw [if_neg c3] at hf
      refine g_iload_n (j := 1) dX12_findsUnits_61 rfl rfl ?_
      refine g_bipush (v := 8) dX12_findsUnits_62 (by decide) ?_
      refine g_icmp_ne (tgt := 69) dX12_findsUnits_64 (by decide) (fun c4 => ?_) (fun c4 => ?_)
      · rw [if_neg c4] at hf
        refine g_aload_n (j := 0) dX12_findsUnits_69 rfl rfl ?_
        refine g_bipush (v := 14) dX12_findsUnits_70 (by decide) ?_
        refine g_bipush (v := 13) dX12_findsUnits_72 (by decide) ?_
        obtain ⟨_, h7, hf⟩ := ob hf
        obtain ⟨σ5, v6, eσ5, hf⟩ := cb_el hf
        refine g_callV_v dX12_findsUnits_74 (wX12_divides _ eσ5) (okX12_divides _ (by decide) (by decide)) (ckK_el h7) hc16 t_1931 t_1933 s_X12_divides rfl (Nat.le_trans (cat_le _) (Nat.le_of_ble_eq_true rfl)) rfl ?_
        refine g_aload_n (j := 0) dX12_findsUnits_77 rfl rfl ?_
        refine g_bipush (v := 6) dX12_findsUnits_78 (by decide) ?_
        refine g_bipush (v := 9) dX12_findsUnits_80 (by decide) ?_
        obtain ⟨_, h10, hf⟩ := ob hf
        obtain ⟨σ8, v9, eσ8, hf⟩ := cb_el hf
        refine g_callV_v dX12_findsUnits_82 (wX12_copies _ eσ8) (okX12_copies _ (by decide) (by decide)) (ckK_el h10) hc16 t_1927 t_1929 s_X12_copies rfl (Nat.le_trans (cat_le _) (Nat.le_of_ble_eq_true rfl)) rfl ?_
        refine g_aload_n (j := 0) dX12_findsUnits_85 rfl rfl ?_
        refine g_iconst (v := 4) dX12_findsUnits_86 (by decide) ?_
        refine g_iconst (v := 1) dX12_findsUnits_87 (by decide) ?_
        obtain ⟨_, h13, hf⟩ := ob hf
        obtain ⟨σ11, v12, eσ11, hf⟩ := cb_el hf
        refine g_callV_v dX12_findsUnits_88 (wX12_puts _ eσ11) (okX12_puts _ (by decide) (by decide)) (ckK_el h13) hc16 t_1911 t_1913 s_X12_puts rfl (Nat.le_trans (cat_le _) (Nat.le_of_ble_eq_true rfl)) rfl ?_
        refine g_aload_n (j := 0) dX12_findsUnits_91 rfl rfl ?_
        obtain ⟨v14, ev14, hf⟩ := ob hf
        refine g_getF dX12_findsUnits_92 ev14 t_1969 hin16 hc16 (by decide) rfl ?_
        refine g_bipush (v := 10) dX12_findsUnits_95 (by decide) ?_
        obtain ⟨v15, ev15, hf⟩ := ob hf
        refine g_iald dX12_findsUnits_97 ev15 ?_
        refine g_if_le (tgt := 108) dX12_findsUnits_98 (by decide) (fun c16 => ?_) (fun c16 => ?_)
        · rw [if_pos c16] at hf
          exact bX12_findsUnits_108 hX1 hX2 (fun σ x0 x1 hf => ih σ x0 x1 hf) hf
        · rw [if_neg c16] at hf
          refine g_aload_n (j := 0) dX12_findsUnits_101 rfl rfl ?_
          refine g_bipush (v := 6) dX12_findsUnits_102 (by decide) ?_
          refine g_iconst (v := 4) dX12_findsUnits_104 (by decide) ?_
          obtain ⟨_, h19, hf⟩ := ob hf
          obtain ⟨σ17, v18, eσ17, hf⟩ := cb_el hf
          refine g_callV_v dX12_findsUnits_105 (wX12_adds _ eσ17) (okX12_adds _ (by decide) (by decide)) (ckK_el h19) hc16 t_2302 t_2304 s_X12_adds rfl (Nat.le_trans (cat_le _) (Nat.le_of_ble_eq_true rfl)) rfl ?_
          exact bX12_findsUnits_108 hX1 hX2 (fun σ x0 x1 hf => ih σ x0 x1 hf) hf
      · rw [if_pos c4] at hf
        refine g_iconst (v := (-1)) dX12_findsUnits_67 (by decide) ?_
        exact g_iret dX12_findsUnits_68 rfl rfl hX2 hX1 hf

set_option maxRecDepth 100000 in
set_option maxHeartbeats 4000000 in
theorem wX12_findsUnits (l : Launch) {σ σf : St} {x0 : Nat} {r : Int32} (hf : fX12_findsUnits σ x0 = some (σf, r)) : Con MtX12_findsUnits yX12_findsUnits l σ [rv x0] σf (some (.int r)) := by
  refine Con.of (by decide +kernel) rfl (fun h => absurd (show false = true from h) (by decide)) (by simp only [sl_n, sl_r, sl_i, sl_l]; exact Nat.le_of_ble_eq_true rfl) ?_
  rw [show lv_args 0 [rv x0] = [(0, rv x0)] by simp only [la_n, la_r, la_i, la_l] <;> rfl]
  have hX1 : ((l, σ, σf, .inl (some (.int r))) : Xt).2.2.1 = σf := rfl
  have hX2 : ((l, σ, σf, .inl (some (.int r))) : Xt).2.2.2 = .inl (some (.int r)) := rfl
  unfold fX12_findsUnits at hf
  refine g_aload_n (j := 0) dX12_findsUnits_0 rfl rfl ?_
  obtain ⟨v1, ev1, hf⟩ := ob hf
  refine g_getF dX12_findsUnits_1 ev1 t_1970 hin16 hc16 (by decide) rfl ?_
  refine g_aload_n (j := 0) dX12_findsUnits_4 rfl rfl ?_
  obtain ⟨v2, ev2, hf⟩ := ob hf
  refine g_getI dX12_findsUnits_5 ev2 t_2024 hin16 hc16 (by decide) rfl ?_
  obtain ⟨v3, ev3, hf⟩ := ob hf
  refine g_iald dX12_findsUnits_8 ev3 ?_
  refine g_if_gt (tgt := 14) dX12_findsUnits_9 (by decide) (fun c4 => ?_) (fun c4 => ?_)
  · rw [if_pos c4] at hf
    refine g_aload_n (j := 0) dX12_findsUnits_14 rfl rfl ?_
    refine g_bipush (v := 13) dX12_findsUnits_15 (by decide) ?_
    refine g_aload_n (j := 0) dX12_findsUnits_17 rfl rfl ?_
    obtain ⟨v5, ev5, hf⟩ := ob hf
    refine g_getI dX12_findsUnits_18 ev5 t_2024 hin16 hc16 (by decide) rfl ?_
    refine g_iconst (v := 0) dX12_findsUnits_21 (by decide) ?_
    obtain ⟨_, h8, hf⟩ := ob hf
    obtain ⟨σ6, v7, eσ6, hf⟩ := cb_el hf
    refine g_callV_v dX12_findsUnits_22 (wX12_loads _ eσ6) (okX12_loads _ (by decide) (by decide)) (ckK_el h8) hc16 t_2439 t_2441 s_X12_loads rfl (Nat.le_trans (cat_le _) (Nat.le_of_ble_eq_true rfl)) rfl ?_
    refine g_aload_n (j := 0) dX12_findsUnits_25 rfl rfl ?_
    refine g_bipush (v := 14) dX12_findsUnits_26 (by decide) ?_
    refine g_aload_n (j := 0) dX12_findsUnits_28 rfl rfl ?_
    obtain ⟨v9, ev9, hf⟩ := ob hf
    refine g_getI dX12_findsUnits_29 ev9 t_2024 hin16 hc16 (by decide) rfl ?_
    refine g_iconst (v := 1) dX12_findsUnits_32 (by decide) ?_
    obtain ⟨_, h12, hf⟩ := ob hf
    obtain ⟨σ10, v11, eσ10, hf⟩ := cb_el hf
    refine g_callV_v dX12_findsUnits_33 (wX12_loads _ eσ10) (okX12_loads _ (by decide) (by decide)) (ckK_el h12) hc16 t_2439 t_2441 s_X12_loads rfl (Nat.le_trans (cat_le _) (Nat.le_of_ble_eq_true rfl)) rfl ?_
    refine g_aload_n (j := 0) dX12_findsUnits_36 rfl rfl ?_
    refine g_bipush (v := 13) dX12_findsUnits_37 (by decide) ?_
    refine g_bipush (v := 14) dX12_findsUnits_39 (by decide) ?_
    obtain ⟨_, h15, hf⟩ := ob hf
    obtain ⟨σ13, v14, eσ13, hf⟩ := cb_el hf
    refine g_callV_i dX12_findsUnits_41 (wX12_compares _ eσ13) (okX12_compares _ (by decide) (by decide)) (ckK_el h15) hc16 t_1935 t_1937 s_X12_compares rfl (Nat.le_trans (cat_le _) (Nat.le_of_ble_eq_true rfl)) rfl ?_
    refine g_if_lt (tgt := 49) dX12_findsUnits_44 (by decide) (fun c16 => ?_) (fun c16 => ?_)
    · rw [if_pos c16] at hf
      refine g_iconst (v := 0) dX12_findsUnits_49 (by decide) ?_
      refine g_istore_n (i := 1) (L' := [(1, .int 0), (0, rv x0)]) dX12_findsUnits_50 rfl (Nat.le_of_ble_eq_true rfl) (by simp [rv_cat]) ?_
      refine g_sub (L' := [(0, rv x0), (1, .int 0)]) [1, 0] rfl ?_
      exact bX12_findsUnits_51 hX1 hX2 FU _ _ _ hf
    · rw [if_neg c16] at hf
      refine g_iconst (v := (-1)) dX12_findsUnits_47 (by decide) ?_
      exact g_iret dX12_findsUnits_48 rfl rfl hX2 hX1 hf
  · rw [if_neg c4] at hf
    refine g_iconst (v := (-1)) dX12_findsUnits_12 (by decide) ?_
    exact g_iret dX12_findsUnits_13 rfl rfl hX2 hX1 hf

theorem okX12_findsUnits (M : Mt) (h1 : 8 + 1 ≤ M.2.2.2.2.1) (h2 : 8 + (2 + 11) + 255 ≤ M.2.2.2.2.2.1) : CallOk M MtX12_findsUnits yX12_findsUnits 0 := ⟨t_2714, h1, h2, ⟨by decide, by decide⟩, by decide +kernel, t_16⟩
abbrev MtX12_units : Mt := (cX12_units, 3, "ExactlySaidModel", (Option.some Jvm.ClassFile.FieldType.int), 9, 276, false)
set_option maxRecDepth 100000 in
set_option maxHeartbeats 4000000 in
theorem wX12_units (l : Launch) {σ σf : St} {x0 : Nat} {r : Int32} (hf : fX12_units σ x0 = some (σf, r)) : Con MtX12_units yX12_units l σ [rv x0] σf (some (.int r)) := by
  refine Con.of (by decide +kernel) rfl (fun h => absurd (show false = true from h) (by decide)) (by simp only [sl_n, sl_r, sl_i, sl_l]; exact Nat.le_of_ble_eq_true rfl) ?_
  rw [show lv_args 0 [rv x0] = [(0, rv x0)] by simp only [la_n, la_r, la_i, la_l] <;> rfl]
  have hX1 : ((l, σ, σf, .inl (some (.int r))) : Xt).2.2.1 = σf := rfl
  have hX2 : ((l, σ, σf, .inl (some (.int r))) : Xt).2.2.2 = .inl (some (.int r)) := rfl
  unfold fX12_units at hf
  refine g_aload_n (j := 0) dX12_units_0 rfl rfl ?_
  refine g_iconst (v := 0) dX12_units_1 (by decide) ?_
  obtain ⟨σ1, eσ1, hf⟩ := ob hf
  refine g_putI dX12_units_2 eσ1 (Or.inl t_1967) hin16 hc16 (by decide) hty16 hnm16 (Or.inl rfl) rfl rfl rfl ?_
  refine g_aload_n (j := 0) dX12_units_5 rfl rfl ?_
  obtain ⟨v2, ev2, hf⟩ := ob hf
  refine g_getI dX12_units_6 ev2 t_1972 hin16 hc16 (by decide) rfl ?_
  refine g_istore_n (i := 1) (L' := [(1, .int v2), (0, rv x0)]) dX12_units_9 rfl (Nat.le_of_ble_eq_true rfl) (by simp [rv_cat]) ?_
  refine g_aload_n (j := 1) dX12_units_10 rfl rfl ?_
  obtain ⟨_, h5, hf⟩ := ob hf
  obtain ⟨σ3, v4, eσ3, hf⟩ := cb_el hf
  refine g_callV_i dX12_units_11 (wX12_findsUnits _ eσ3) (okX12_findsUnits _ (by decide) (by decide)) (ckK_el h5) hc16 t_2711 t_2713 s_X12_findsUnits rfl (Nat.le_trans (cat_le _) (Nat.le_of_ble_eq_true rfl)) rfl ?_
  refine g_istore_n (i := 2) (L' := [(2, .int v4), (1, .int v2), (0, rv x0)]) dX12_units_14 rfl (Nat.le_of_ble_eq_true rfl) rfl ?_
  refine g_aload_n (j := 2) dX12_units_15 rfl rfl ?_
  refine g_iload_n (j := 1) dX12_units_16 rfl rfl ?_
  obtain ⟨σ6, eσ6, hf⟩ := ob hf
  refine g_putI dX12_units_17 eσ6 (Or.inl t_1972) hin16 hc16 (by decide) hty16 hnm16 (Or.inl rfl) rfl rfl rfl ?_
  refine g_iload_n (j := 0) dX12_units_20 rfl rfl ?_
  exact g_iret dX12_units_21 rfl rfl hX2 hX1 hf

theorem okX12_units (M : Mt) (h1 : 9 + 1 ≤ M.2.2.2.2.1) (h2 : 8 + (3 + 11) + 276 ≤ M.2.2.2.2.2.1) : CallOk M MtX12_units yX12_units 0 := ⟨t_2710, h1, h2, ⟨by decide, by decide⟩, by decide +kernel, t_16⟩
abbrev MtX12_takeUnit : Mt := (cX12_takeUnit, 5, "ExactlySaidModel", (Option.some Jvm.ClassFile.FieldType.int), 9, 276, false)
set_option maxRecDepth 100000 in
set_option maxHeartbeats 4000000 in
theorem wX12_takeUnit (l : Launch) {σ σf : St} {x0 : Nat} {x1 : Int32} {r : Int32} (hf : fX12_takeUnit σ x0 x1 = some (σf, r)) : Con MtX12_takeUnit yX12_takeUnit l σ [rv x0, .int x1] σf (some (.int r)) := by
  refine Con.of (by decide +kernel) rfl (fun h => absurd (show false = true from h) (by decide)) (by simp only [sl_n, sl_r, sl_i, sl_l]; exact Nat.le_of_ble_eq_true rfl) ?_
  rw [show lv_args 0 [rv x0, .int x1] = [(0, rv x0), (1, .int x1)] by simp only [la_n, la_r, la_i, la_l] <;> rfl]
  have hX1 : ((l, σ, σf, .inl (some (.int r))) : Xt).2.2.1 = σf := rfl
  have hX2 : ((l, σ, σf, .inl (some (.int r))) : Xt).2.2.2 = .inl (some (.int r)) := rfl
  unfold fX12_takeUnit at hf
  refine g_aload_n (j := 0) dX12_takeUnit_0 rfl rfl ?_
  refine g_iconst (v := 0) dX12_takeUnit_1 (by decide) ?_
  obtain ⟨σ1, eσ1, hf⟩ := ob hf
  refine g_putI dX12_takeUnit_2 eσ1 (Or.inl t_1967) hin16 hc16 (by decide) hty16 hnm16 (Or.inl rfl) rfl rfl rfl ?_
  refine g_aload_n (j := 0) dX12_takeUnit_5 rfl rfl ?_
  obtain ⟨v2, ev2, hf⟩ := ob hf
  refine g_getI dX12_takeUnit_6 ev2 t_1972 hin16 hc16 (by decide) rfl ?_
  refine g_istore_n (i := 2) (L' := [(2, .int v2), (0, rv x0), (1, .int x1)]) dX12_takeUnit_9 rfl (Nat.le_of_ble_eq_true rfl) rfl ?_
  refine g_aload_n (j := 1) dX12_takeUnit_10 rfl rfl ?_
  obtain ⟨_, h5, hf⟩ := ob hf
  obtain ⟨σ3, v4, eσ3, hf⟩ := cb_el hf
  refine g_callV_i dX12_takeUnit_11 (wX12_findsUnits _ eσ3) (okX12_findsUnits _ (by decide) (by decide)) (ckK_el h5) hc16 t_2711 t_2713 s_X12_findsUnits rfl (Nat.le_trans (cat_le _) (Nat.le_of_ble_eq_true rfl)) rfl ?_
  refine g_istore_n (i := 3) (L' := [(3, .int v4), (2, .int v2), (0, rv x0), (1, .int x1)]) dX12_takeUnit_14 rfl (Nat.le_of_ble_eq_true rfl) rfl ?_
  refine g_aload_n (j := 2) dX12_takeUnit_15 rfl rfl ?_
  refine g_iload_n (j := 1) dX12_takeUnit_16 rfl rfl ?_
  obtain ⟨σ6, eσ6, hf⟩ := ob hf
  refine g_putI dX12_takeUnit_17 eσ6 (Or.inl t_1972) hin16 hc16 (by decide) hty16 hnm16 (Or.inl rfl) rfl rfl rfl ?_
  refine g_aload_n (j := 2) dX12_takeUnit_20 rfl rfl ?_
  refine g_iload_n (j := 3) dX12_takeUnit_21 rfl rfl ?_
  refine g_iconst (v := 0) dX12_takeUnit_22 (by decide) ?_
  refine g_iload_n (j := 0) dX12_takeUnit_23 rfl rfl ?_
  refine g_iconst (v := 1) dX12_takeUnit_24 (by decide) ?_
  refine g_isub dX12_takeUnit_25 ?_
  obtain ⟨σ7, v8, eσ7, hf⟩ := cb_el hf
  refine g_callS_i dX12_takeUnit_26 (wX12_in _ eσ7) (okX12_in _ (by decide) (by decide)) t_2257 t_2258 rfl (Nat.le_trans (cat_le _) (Nat.le_of_ble_eq_true rfl)) rfl ?_
  refine g_iconst (v := 1) dX12_takeUnit_29 (by decide) ?_
  obtain ⟨_, h11, hf⟩ := ob hf
  obtain ⟨σ9, v10, eσ9, hf⟩ := cb_el hf
  refine g_callV_i dX12_takeUnit_30 (wX12_fails _ eσ9) (okX12_fails _ (by decide) (by decide)) (ckK_el h11) hc16 t_2225 t_2227 s_X12_fails rfl (Nat.le_trans (cat_le _) (Nat.le_of_ble_eq_true rfl)) rfl ?_
  refine g_if_eq (tgt := 38) dX12_takeUnit_33 (by decide) (fun c12 => ?_) (fun c12 => ?_)
  · rw [if_pos c12] at hf
    refine g_aload_n (j := 2) dX12_takeUnit_38 rfl rfl ?_
    refine g_bipush (v := 7) dX12_takeUnit_39 (by decide) ?_
    refine g_aload_n (j := 2) dX12_takeUnit_41 rfl rfl ?_
    obtain ⟨v13, ev13, hf⟩ := ob hf
    refine g_getF dX12_takeUnit_42 ev13 t_2049 hin16 hc16 (by decide) rfl ?_
    refine g_iload_n (j := 3) dX12_takeUnit_45 rfl rfl ?_
    obtain ⟨v14, ev14, hf⟩ := ob hf
    refine g_iald dX12_takeUnit_46 ev14 ?_
    refine g_iconst (v := 0) dX12_takeUnit_47 (by decide) ?_
    obtain ⟨_, h17, hf⟩ := ob hf
    obtain ⟨σ15, v16, eσ15, hf⟩ := cb_el hf
    refine g_callV_v dX12_takeUnit_48 (wX12_loads _ eσ15) (okX12_loads _ (by decide) (by decide)) (ckK_el h17) hc16 t_2439 t_2441 s_X12_loads rfl (Nat.le_trans (cat_le _) (Nat.le_of_ble_eq_true rfl)) rfl ?_
    refine g_aload_n (j := 2) dX12_takeUnit_51 rfl rfl ?_
    refine g_bipush (v := 6) dX12_takeUnit_52 (by decide) ?_
    refine g_iconst (v := 1) dX12_takeUnit_54 (by decide) ?_
    obtain ⟨_, h20, hf⟩ := ob hf
    obtain ⟨σ18, v19, eσ18, hf⟩ := cb_el hf
    refine g_callV_v dX12_takeUnit_55 (wX12_puts _ eσ18) (okX12_puts _ (by decide) (by decide)) (ckK_el h20) hc16 t_1911 t_1913 s_X12_puts rfl (Nat.le_trans (cat_le _) (Nat.le_of_ble_eq_true rfl)) rfl ?_
    refine g_aload_n (j := 2) dX12_takeUnit_58 rfl rfl ?_
    refine g_aload_n (j := 2) dX12_takeUnit_59 rfl rfl ?_
    refine g_iconst (v := 1) dX12_takeUnit_60 (by decide) ?_
    obtain ⟨_, h23, hf⟩ := ob hf
    obtain ⟨σ21, v22, eσ21, hf⟩ := cb_el hf
    refine g_callV_i dX12_takeUnit_61 (wX12_keepsMade _ eσ21) (okX12_keepsMade _ (by decide) (by decide)) (ckK_el h23) hc16 t_2314 t_2316 s_X12_keepsMade rfl (Nat.le_trans (cat_le _) (Nat.le_of_ble_eq_true rfl)) rfl ?_
    obtain ⟨_, h26, hf⟩ := ob hf
    obtain ⟨σ24, v25, eσ24, hf⟩ := cb_el hf
    refine g_callV_i dX12_takeUnit_64 (wX12_becomes _ eσ24) (okX12_becomes _ (by decide) (by decide)) (ckK_el h26) hc16 t_2615 t_2617 s_X12_becomes rfl (Nat.le_trans (cat_le _) (Nat.le_of_ble_eq_true rfl)) rfl ?_
    refine g_istore (i := 4) (L' := [(4, .int v25), (3, .int v4), (2, .int v2), (0, rv x0), (1, .int x1)]) dX12_takeUnit_67 (Nat.le_of_ble_eq_true rfl) rfl ?_
    refine g_aload_n (j := 3) dX12_takeUnit_69 rfl rfl ?_
    refine g_iconst (v := 1) dX12_takeUnit_70 (by decide) ?_
    obtain ⟨_, h29, hf⟩ := ob hf
    obtain ⟨σ27, v28, eσ27, hf⟩ := cb_el hf
    refine g_callV_v dX12_takeUnit_71 (wX12_drafts _ eσ27) (okX12_drafts _ (by decide) (by decide)) (ckK_el h29) hc16 t_2559 t_2561 s_X12_drafts rfl (Nat.le_trans (cat_le _) (Nat.le_of_ble_eq_true rfl)) rfl ?_
    refine g_aload_n (j := 3) dX12_takeUnit_74 rfl rfl ?_
    obtain ⟨v30, ev30, hf⟩ := ob hf
    refine g_getI dX12_takeUnit_75 ev30 t_2044 hin16 hc16 (by decide) rfl ?_
    exact g_iret dX12_takeUnit_78 rfl rfl hX2 hX1 hf
  · rw [if_neg c12] at hf
    refine g_iconst (v := 0) dX12_takeUnit_36 (by decide) ?_
    exact g_iret dX12_takeUnit_37 rfl rfl hX2 hX1 hf

theorem okX12_takeUnit (M : Mt) (h1 : 9 + 1 ≤ M.2.2.2.2.1) (h2 : 8 + (5 + 11) + 276 ≤ M.2.2.2.2.2.1) : CallOk M MtX12_takeUnit yX12_takeUnit 1 := ⟨t_2718, h1, h2, ⟨by decide, by decide⟩, by decide +kernel, t_16⟩
abbrev MtX12_noRow : Mt := (cX12_noRow, 2, "ExactlySaidModel", (Option.some Jvm.ClassFile.FieldType.boolean), 2, 106, false)
set_option maxRecDepth 100000 in
set_option maxHeartbeats 4000000 in
theorem wX12_noRow (l : Launch) {σ σf : St} {x0 : Nat} {x1 : Int32} {r : Int32} (hf : fX12_noRow σ x0 x1 = some (σf, r)) : Con MtX12_noRow yX12_noRow l σ [rv x0, .int x1] σf (some (.int r)) := by
  refine Con.of (by decide +kernel) rfl (fun h => absurd (show false = true from h) (by decide)) (by simp only [sl_n, sl_r, sl_i, sl_l]; exact Nat.le_of_ble_eq_true rfl) ?_
  rw [show lv_args 0 [rv x0, .int x1] = [(0, rv x0), (1, .int x1)] by simp only [la_n, la_r, la_i, la_l] <;> rfl]
  have hX1 : ((l, σ, σf, .inl (some (.int r))) : Xt).2.2.1 = σf := rfl
  have hX2 : ((l, σ, σf, .inl (some (.int r))) : Xt).2.2.2 = .inl (some (.int r)) := rfl
  unfold fX12_noRow at hf
  refine g_aload_n (j := 0) dX12_noRow_0 rfl rfl ?_
  refine g_iload_n (j := 1) dX12_noRow_1 rfl rfl ?_
  refine g_iconst (v := 0) dX12_noRow_2 (by decide) ?_
  refine g_iconst (v := 2) dX12_noRow_3 (by decide) ?_
  obtain ⟨σ1, v2, eσ1, hf⟩ := cb_el hf
  refine g_callS_i dX12_noRow_4 (wX12_in _ eσ1) (okX12_in _ (by decide) (by decide)) t_2257 t_2258 rfl (Nat.le_trans (cat_le _) (Nat.le_of_ble_eq_true rfl)) rfl ?_
  refine g_iconst (v := 1) dX12_noRow_7 (by decide) ?_
  obtain ⟨_, h5, hf⟩ := ob hf
  obtain ⟨σ3, v4, eσ3, hf⟩ := cb_el hf
  refine g_callV_i dX12_noRow_8 (wX12_fails _ eσ3) (okX12_fails _ (by decide) (by decide)) (ckK_el h5) hc16 t_2225 t_2227 s_X12_fails rfl (Nat.le_trans (cat_le _) (Nat.le_of_ble_eq_true rfl)) rfl ?_
  obtain ⟨_, h6, hf⟩ := ob hf
  exact g_iret dX12_noRow_11 rfl (ckZ_el h6) hX2 hX1 hf

theorem okX12_noRow (M : Mt) (h1 : 2 + 1 ≤ M.2.2.2.2.1) (h2 : 8 + (2 + 11) + 106 ≤ M.2.2.2.2.2.1) : CallOk M MtX12_noRow yX12_noRow 1 := ⟨t_2726, h1, h2, ⟨by decide, by decide⟩, by decide +kernel, t_16⟩
abbrev MtX12_manyBelow : Mt := (cX12_manyBelow, 4, "ExactlySaidModel", (Option.some Jvm.ClassFile.FieldType.int), 5, 174, false)
set_option maxRecDepth 100000 in
set_option maxHeartbeats 4000000 in
theorem bX12_manyBelow_42 {X : Xt} {σf : St} {r : Int32} (hX1 : X.2.2.1 = σf) (hX2 : X.2.2.2 = .inl (some (.int r))) {k4 : St → Nat → Int32 → Int32 → Int32 → Option (St × Int32)} (hk4 : ∀ (σ : St) (x0 : Nat) (x1 : Int32) (x2 : Int32) (x3 : Int32), k4 σ x0 x1 x2 x3 = some (σf, r) → G MtX12_manyBelow X σ 4 [(0, rv x0), (1, .int x1), (2, .int x2), (3, .int x3)] []) {σ : St} {x0 : Nat} {x1 : Int32} {x3 : Int32} {y0 : Int32} {y1 : Int32} (hf : fX12_manyBelow_42 k4 σ x0 x1 x3 y0 y1 = some (σf, r)) : G MtX12_manyBelow X σ 42 [(0, rv x0), (1, .int x1), (3, .int x3)] [.int y1, .int y0] := by
  unfold fX12_manyBelow_42 at hf
  refine g_iadd dX12_manyBelow_42 ?_
  obtain ⟨v1, ev1, hf⟩ := nm_el hf
  refine g_topI ev1 ?_
  refine g_istore_n (i := 2) (L' := [(2, .int v1), (0, rv x0), (1, .int x1), (3, .int x3)]) dX12_manyBelow_43 rfl (Nat.le_of_ble_eq_true rfl) rfl ?_
  obtain ⟨v2, ev2, hf⟩ := nm_el hf
  refine g_iinc (L' := [(3, .int v2), (2, .int v1), (0, rv x0), (1, .int x1)]) (j := 3) (v := v2) dX12_manyBelow_44 rfl (by rw [ev2]; rfl) (Nat.le_of_ble_eq_true rfl) rfl ?_
  refine g_goto (tgt := 4) dX12_manyBelow_47 (by decide) ?_
  refine g_sub (L' := [(0, rv x0), (1, .int x1), (2, .int v1), (3, .int v2)]) [2, 3, 1, 0] rfl ?_
  exact hk4 _ _ _ _ _ hf

set_option maxRecDepth 100000 in
set_option maxHeartbeats 4000000 in
theorem bX12_manyBelow_4 {X : Xt} {σf : St} {r : Int32} (hX1 : X.2.2.1 = σf) (hX2 : X.2.2.2 = .inl (some (.int r))) : ∀ (n : Nat) (σ : St) (x0 : Nat) (x1 : Int32) (x2 : Int32) (x3 : Int32), fX12_manyBelow_4 n σ x0 x1 x2 x3 = some (σf, r) → G MtX12_manyBelow X σ 4 [(0, rv x0), (1, .int x1), (2, .int x2), (3, .int x3)] [] := by
  intro n
  induction n with
  | zero => intro σ x0 x1 x2 x3 hf; cases hf
  | succ n ih =>
    intro σ x0 x1 x2 x3 hf
    rw [fX12_manyBelow_4] at hf
    refine g_iload_n (j := 3) dX12_manyBelow_4 rfl rfl ?_
    refine g_aload_n (j := 0) dX12_manyBelow_5 rfl rfl ?_
    obtain ⟨v1, ev1, hf⟩ := ob hf
    refine g_getF dX12_manyBelow_6 ev1 t_2035 hin16 hc16 (by decide) rfl ?_
    refine g_iload_n (j := 1) dX12_manyBelow_9 rfl rfl ?_
    obtain ⟨v2, ev2, hf⟩ := ob hf
    refine g_iald dX12_manyBelow_10 ev2 ?_
    refine g_icmp_ge (tgt := 50) dX12_manyBelow_11 (by decide) (fun c3 => ?_) (fun c3 => ?_)
    · rw [if_pos c3] at hf
      refine g_iload_n (j := 2) dX12_manyBelow_50 rfl rfl ?_
      exact g_iret dX12_manyBelow_51 rfl rfl hX2 hX1 hf
    · rw [if_neg c3] at hf
      refine g_iload_n (j := 2) dX12_manyBelow_14 rfl rfl ?_
      refine g_aload_n (j := 0) dX12_manyBelow_15 rfl rfl ?_
      refine g_aload_n (j := 0) dX12_manyBelow_16 rfl rfl ?_
      obtain ⟨v4, ev4, hf⟩ := ob hf
      refine g_getF dX12_manyBelow_17 ev4 t_2034 hin16 hc16 (by decide) rfl ?_
      refine g_bipush (v := 50) dX12_manyBelow_20 (by decide) ?_
      refine g_iload_n (j := 1) dX12_manyBelow_22 rfl rfl ?_
      refine g_imul dX12_manyBelow_23 ?_
      refine g_iload_n (j := 3) dX12_manyBelow_24 rfl rfl ?_
      refine g_iadd dX12_manyBelow_25 ?_
      obtain ⟨v5, ev5, hf⟩ := ob hf
      refine g_iald dX12_manyBelow_26 ev5 ?_
      refine g_aload_n (j := 0) dX12_manyBelow_27 rfl rfl ?_
      obtain ⟨v6, ev6, hf⟩ := ob hf
      refine g_getI dX12_manyBelow_28 ev6 t_2024 hin16 hc16 (by decide) rfl ?_
      obtain ⟨_, h9, hf⟩ := ob hf
      obtain ⟨σ7, v8, eσ7, hf⟩ := cb_el hf
      refine g_callV_i dX12_manyBelow_31 (wX12_order _ eσ7) (okX12_order _ (by decide) (by decide)) (ckK_el h9) hc16 t_2471 t_2473 s_X12_order rfl (Nat.le_trans (cat_le _) (Nat.le_of_ble_eq_true rfl)) rfl ?_
      refine g_if_ge (tgt := 41) dX12_manyBelow_34 (by decide) (fun c10 => ?_) (fun c10 => ?_)
      · rw [if_pos c10] at hf
        refine g_iconst (v := 0) dX12_manyBelow_41 (by decide) ?_
        refine g_sub (L' := [(0, rv x0), (1, .int x1), (3, .int x3)]) [0, 1, 3] rfl ?_
        exact bX12_manyBelow_42 hX1 hX2 (fun σ x0 x1 x2 x3 hf => ih σ x0 x1 x2 x3 hf) hf
      · rw [if_neg c10] at hf
        refine g_iconst (v := 1) dX12_manyBelow_37 (by decide) ?_
        refine g_goto (tgt := 42) dX12_manyBelow_38 (by decide) ?_
        refine g_sub (L' := [(0, rv x0), (1, .int x1), (3, .int x3)]) [0, 1, 3] rfl ?_
        exact bX12_manyBelow_42 hX1 hX2 (fun σ x0 x1 x2 x3 hf => ih σ x0 x1 x2 x3 hf) hf

set_option maxRecDepth 100000 in
set_option maxHeartbeats 4000000 in
theorem wX12_manyBelow (l : Launch) {σ σf : St} {x0 : Nat} {x1 : Int32} {r : Int32} (hf : fX12_manyBelow σ x0 x1 = some (σf, r)) : Con MtX12_manyBelow yX12_manyBelow l σ [rv x0, .int x1] σf (some (.int r)) := by
  refine Con.of (by decide +kernel) rfl (fun h => absurd (show false = true from h) (by decide)) (by simp only [sl_n, sl_r, sl_i, sl_l]; exact Nat.le_of_ble_eq_true rfl) ?_
  rw [show lv_args 0 [rv x0, .int x1] = [(0, rv x0), (1, .int x1)] by simp only [la_n, la_r, la_i, la_l] <;> rfl]
  have hX1 : ((l, σ, σf, .inl (some (.int r))) : Xt).2.2.1 = σf := rfl
  have hX2 : ((l, σ, σf, .inl (some (.int r))) : Xt).2.2.2 = .inl (some (.int r)) := rfl
  unfold fX12_manyBelow at hf
  refine g_iconst (v := 0) dX12_manyBelow_0 (by decide) ?_
  refine g_istore_n (i := 2) (L' := [(2, .int 0), (0, rv x0), (1, .int x1)]) dX12_manyBelow_1 rfl (Nat.le_of_ble_eq_true rfl) rfl ?_
  refine g_iconst (v := 0) dX12_manyBelow_2 (by decide) ?_
  refine g_istore_n (i := 3) (L' := [(3, .int 0), (2, .int 0), (0, rv x0), (1, .int x1)]) dX12_manyBelow_3 rfl (Nat.le_of_ble_eq_true rfl) rfl ?_
  refine g_sub (L' := [(0, rv x0), (1, .int x1), (2, .int 0), (3, .int 0)]) [2, 3, 1, 0] rfl ?_
  exact bX12_manyBelow_4 hX1 hX2 FU _ _ _ _ _ hf

theorem okX12_manyBelow (M : Mt) (h1 : 5 + 1 ≤ M.2.2.2.2.1) (h2 : 8 + (4 + 11) + 174 ≤ M.2.2.2.2.2.1) : CallOk M MtX12_manyBelow yX12_manyBelow 1 := ⟨t_2730, h1, h2, ⟨by decide, by decide⟩, by decide +kernel, t_16⟩
abbrev MtX12_put : Mt := (cX12_put, 4, "ExactlySaidModel", (Option.some Jvm.ClassFile.FieldType.int), 6, 197, false)
set_option maxRecDepth 100000 in
set_option maxHeartbeats 4000000 in
theorem bX12_put_56 {X : Xt} {σf : St} {r : Int32} (hX1 : X.2.2.1 = σf) (hX2 : X.2.2.2 = .inl (some (.int r))) : ∀ (n : Nat) (σ : St) (x0 : Nat) (x1 : Int32) (x2 : Int32) (x3 : Int32), fX12_put_56 n σ x0 x1 x2 x3 = some (σf, r) → G MtX12_put X σ 56 [(0, rv x0), (1, .int x1), (2, .int x2), (3, .int x3)] [] := by
  intro n
  induction n with
  | zero => intro σ x0 x1 x2 x3 hf; cases hf
  | succ n ih =>
    intro σ x0 x1 x2 x3 hf
    rw [fX12_put_56] at hf
    refine g_iload_n (j := 3) dX12_put_56 rfl rfl ?_
    refine g_iload_n (j := 2) dX12_put_57 rfl rfl ?_
    refine g_icmp_le (tgt := 91) dX12_put_58 (by decide) (fun c1 => ?_) (fun c1 => ?_)
    · rw [if_pos c1] at hf
      refine g_aload_n (j := 0) dX12_put_91 rfl rfl ?_
      obtain ⟨v2, ev2, hf⟩ := ob hf
      refine g_getF dX12_put_92 ev2 t_2034 hin16 hc16 (by decide) rfl ?_
      refine g_bipush (v := 50) dX12_put_95 (by decide) ?_
      refine g_iload_n (j := 1) dX12_put_97 rfl rfl ?_
      refine g_imul dX12_put_98 ?_
      refine g_iload_n (j := 2) dX12_put_99 rfl rfl ?_
      refine g_iadd dX12_put_100 ?_
      refine g_aload_n (j := 0) dX12_put_101 rfl rfl ?_
      obtain ⟨v3, ev3, hf⟩ := ob hf
      refine g_getI dX12_put_102 ev3 t_2024 hin16 hc16 (by decide) rfl ?_
      obtain ⟨σ4, eσ4, hf⟩ := ob hf
      refine g_iast dX12_put_105 eσ4 ?_
      refine g_aload_n (j := 0) dX12_put_106 rfl rfl ?_
      obtain ⟨v5, ev5, hf⟩ := ob hf
      refine g_getF dX12_put_107 ev5 t_2035 hin16 hc16 (by decide) rfl ?_
      refine g_iload_n (j := 1) dX12_put_110 rfl rfl ?_
      refine g_dup2 dX12_put_111 rfl (rv_cat _) ?_
      obtain ⟨v6, ev6, hf⟩ := ob hf
      refine g_iald dX12_put_112 ev6 ?_
      refine g_iconst (v := 1) dX12_put_113 (by decide) ?_
      refine g_iadd dX12_put_114 ?_
      obtain ⟨σ7, eσ7, hf⟩ := ob hf
      refine g_iast dX12_put_115 eσ7 ?_
      refine g_aload_n (j := 0) dX12_put_116 rfl rfl ?_
      obtain ⟨_, h10, hf⟩ := ob hf
      obtain ⟨σ8, v9, eσ8, hf⟩ := cb_el hf
      refine g_callV_v dX12_put_117 (wX12_changes _ eσ8) (okX12_changes _ (by decide) (by decide)) (ckK_el h10) hc16 t_2519 t_2521 s_X12_changes rfl (Nat.le_trans (cat_le _) (Nat.le_of_ble_eq_true rfl)) rfl ?_
      refine g_aload_n (j := 0) dX12_put_120 rfl rfl ?_
      obtain ⟨v11, ev11, hf⟩ := ob hf
      refine g_getF dX12_put_121 ev11 t_2035 hin16 hc16 (by decide) rfl ?_
      refine g_iload_n (j := 1) dX12_put_124 rfl rfl ?_
      obtain ⟨v12, ev12, hf⟩ := ob hf
      refine g_iald dX12_put_125 ev12 ?_
      exact g_iret dX12_put_126 rfl rfl hX2 hX1 hf
    · rw [if_neg c1] at hf
      refine g_aload_n (j := 0) dX12_put_61 rfl rfl ?_
      obtain ⟨v13, ev13, hf⟩ := ob hf
      refine g_getF dX12_put_62 ev13 t_2034 hin16 hc16 (by decide) rfl ?_
      refine g_bipush (v := 50) dX12_put_65 (by decide) ?_
      refine g_iload_n (j := 1) dX12_put_67 rfl rfl ?_
      refine g_imul dX12_put_68 ?_
      refine g_iload_n (j := 3) dX12_put_69 rfl rfl ?_
      refine g_iadd dX12_put_70 ?_
      refine g_aload_n (j := 0) dX12_put_71 rfl rfl ?_
      obtain ⟨v14, ev14, hf⟩ := ob hf
      refine g_getF dX12_put_72 ev14 t_2034 hin16 hc16 (by decide) rfl ?_
      refine g_bipush (v := 50) dX12_put_75 (by decide) ?_
      refine g_iload_n (j := 1) dX12_put_77 rfl rfl ?_
      refine g_imul dX12_put_78 ?_
      refine g_iload_n (j := 3) dX12_put_79 rfl rfl ?_
      refine g_iadd dX12_put_80 ?_
      refine g_iconst (v := 1) dX12_put_81 (by decide) ?_
      refine g_isub dX12_put_82 ?_
      obtain ⟨v15, ev15, hf⟩ := ob hf
      refine g_iald dX12_put_83 ev15 ?_
      obtain ⟨σ16, eσ16, hf⟩ := ob hf
      refine g_iast dX12_put_84 eσ16 ?_
      obtain ⟨v17, ev17, hf⟩ := nm_el hf
      refine g_iinc (L' := [(3, .int v17), (0, rv x0), (1, .int x1), (2, .int x2)]) (j := 3) (v := v17) dX12_put_85 rfl (by rw [ev17]; rfl) (Nat.le_of_ble_eq_true rfl) rfl ?_
      refine g_goto (tgt := 56) dX12_put_88 (by decide) ?_
      refine g_sub (L' := [(0, rv x0), (1, .int x1), (2, .int x2), (3, .int v17)]) [1, 2, 3, 0] rfl ?_
      exact ih _ _ _ _ _ hf

set_option maxRecDepth 100000 in
set_option maxHeartbeats 4000000 in
theorem bX12_put_30 {X : Xt} {σf : St} {r : Int32} (hX1 : X.2.2.1 = σf) (hX2 : X.2.2.2 = .inl (some (.int r))) {σ : St} {x0 : Nat} {x1 : Int32} {y0 : Nat} {y1 : Int32} (hf : fX12_put_30 σ x0 x1 y0 y1 = some (σf, r)) : G MtX12_put X σ 30 [(0, rv x0), (1, .int x1)] [.int y1, rv y0] := by
  unfold fX12_put_30 at hf
  refine g_iconst (v := 2) dX12_put_30 (by decide) ?_
  obtain ⟨_, h3, hf⟩ := ob hf
  obtain ⟨σ1, v2, eσ1, hf⟩ := cb_el hf
  refine g_callV_i dX12_put_31 (wX12_fails _ eσ1) (okX12_fails _ (by decide) (by decide)) (ckK_el h3) hc16 t_2225 t_2227 s_X12_fails rfl (Nat.le_trans (cat_le _) (Nat.le_of_ble_eq_true rfl)) rfl ?_
  refine g_if_eq (tgt := 39) dX12_put_34 (by decide) (fun c4 => ?_) (fun c4 => ?_)
  · rw [if_pos c4] at hf
    refine g_aload_n (j := 0) dX12_put_39 rfl rfl ?_
    obtain ⟨_, h7, hf⟩ := ob hf
    obtain ⟨σ5, v6, eσ5, hf⟩ := cb_el hf
    refine g_callV_v dX12_put_40 (wX12_saves _ eσ5) (okX12_saves _ (by decide) (by decide)) (ckK_el h7) hc16 t_2491 t_2493 s_X12_saves rfl (Nat.le_trans (cat_le _) (Nat.le_of_ble_eq_true rfl)) rfl ?_
    refine g_aload_n (j := 0) dX12_put_43 rfl rfl ?_
    refine g_iload_n (j := 1) dX12_put_44 rfl rfl ?_
    obtain ⟨_, h10, hf⟩ := ob hf
    obtain ⟨σ8, v9, eσ8, hf⟩ := cb_el hf
    refine g_callV_i dX12_put_45 (wX12_manyBelow _ eσ8) (okX12_manyBelow _ (by decide) (by decide)) (ckK_el h10) hc16 t_2727 t_2729 s_X12_manyBelow rfl (Nat.le_trans (cat_le _) (Nat.le_of_ble_eq_true rfl)) rfl ?_
    refine g_istore_n (i := 2) (L' := [(2, .int v9), (0, rv x0), (1, .int x1)]) dX12_put_48 rfl (Nat.le_of_ble_eq_true rfl) rfl ?_
    refine g_aload_n (j := 1) dX12_put_49 rfl rfl ?_
    obtain ⟨v11, ev11, hf⟩ := ob hf
    refine g_getF dX12_put_50 ev11 t_2035 hin16 hc16 (by decide) rfl ?_
    refine g_iload_n (j := 2) dX12_put_53 rfl rfl ?_
    obtain ⟨v12, ev12, hf⟩ := ob hf
    refine g_iald dX12_put_54 ev12 ?_
    refine g_istore_n (i := 3) (L' := [(3, .int v12), (2, .int v9), (0, rv x0), (1, .int x1)]) dX12_put_55 rfl (Nat.le_of_ble_eq_true rfl) rfl ?_
    refine g_sub (L' := [(0, rv x0), (1, .int x1), (2, .int v9), (3, .int v12)]) [2, 3, 1, 0] rfl ?_
    exact bX12_put_56 hX1 hX2 FU _ _ _ _ _ hf
  · rw [if_neg c4] at hf
    refine g_iconst (v := 0) dX12_put_37 (by decide) ?_
    exact g_iret dX12_put_38 rfl rfl hX2 hX1 hf

set_option maxRecDepth 100000 in
set_option maxHeartbeats 4000000 in
theorem wX12_put (l : Launch) {σ σf : St} {x0 : Nat} {x1 : Int32} {r : Int32} (hf : fX12_put σ x0 x1 = some (σf, r)) : Con MtX12_put yX12_put l σ [rv x0, .int x1] σf (some (.int r)) := by
  refine Con.of (by decide +kernel) rfl (fun h => absurd (show false = true from h) (by decide)) (by simp only [sl_n, sl_r, sl_i, sl_l]; exact Nat.le_of_ble_eq_true rfl) ?_
  rw [show lv_args 0 [rv x0, .int x1] = [(0, rv x0), (1, .int x1)] by simp only [la_n, la_r, la_i, la_l] <;> rfl]
  have hX1 : ((l, σ, σf, .inl (some (.int r))) : Xt).2.2.1 = σf := rfl
  have hX2 : ((l, σ, σf, .inl (some (.int r))) : Xt).2.2.2 = .inl (some (.int r)) := rfl
  unfold fX12_put at hf
  refine g_aload_n (j := 0) dX12_put_0 rfl rfl ?_
  refine g_iconst (v := 0) dX12_put_1 (by decide) ?_
  obtain ⟨σ1, eσ1, hf⟩ := ob hf
  refine g_putI dX12_put_2 eσ1 (Or.inl t_1967) hin16 hc16 (by decide) hty16 hnm16 (Or.inl rfl) rfl rfl rfl ?_
  refine g_aload_n (j := 0) dX12_put_5 rfl rfl ?_
  refine g_iload_n (j := 1) dX12_put_6 rfl rfl ?_
  obtain ⟨_, h4, hf⟩ := ob hf
  obtain ⟨σ2, v3, eσ2, hf⟩ := cb_el hf
  refine g_callV_i dX12_put_7 (wX12_noRow _ eσ2) (okX12_noRow _ (by decide) (by decide)) (ckK_el h4) hc16 t_2723 t_2725 s_X12_noRow rfl (Nat.le_trans (cat_le _) (Nat.le_of_ble_eq_true rfl)) rfl ?_
  refine g_if_ne (tgt := 37) dX12_put_10 (by decide) (fun c5 => ?_) (fun c5 => ?_)
  · rw [if_neg c5] at hf
    refine g_iconst (v := 0) dX12_put_37 (by decide) ?_
    exact g_iret dX12_put_38 rfl rfl hX2 hX1 hf
  · rw [if_pos c5] at hf
    refine g_aload_n (j := 0) dX12_put_13 rfl rfl ?_
    refine g_aload_n (j := 0) dX12_put_14 rfl rfl ?_
    obtain ⟨v6, ev6, hf⟩ := ob hf
    refine g_getF dX12_put_15 ev6 t_2035 hin16 hc16 (by decide) rfl ?_
    refine g_iload_n (j := 1) dX12_put_18 rfl rfl ?_
    obtain ⟨v7, ev7, hf⟩ := ob hf
    refine g_iald dX12_put_19 ev7 ?_
    refine g_bipush (v := 50) dX12_put_20 (by decide) ?_
    refine g_icmp_ge (tgt := 29) dX12_put_22 (by decide) (fun c8 => ?_) (fun c8 => ?_)
    · rw [if_pos c8] at hf
      refine g_iconst (v := 0) dX12_put_29 (by decide) ?_
      exact bX12_put_30 hX1 hX2 hf
    · rw [if_neg c8] at hf
      refine g_iconst (v := 1) dX12_put_25 (by decide) ?_
      refine g_goto (tgt := 30) dX12_put_26 (by decide) ?_
      exact bX12_put_30 hX1 hX2 hf

theorem okX12_put (M : Mt) (h1 : 6 + 1 ≤ M.2.2.2.2.1) (h2 : 8 + (4 + 11) + 197 ≤ M.2.2.2.2.2.1) : CallOk M MtX12_put yX12_put 1 := ⟨t_2722, h1, h2, ⟨by decide, by decide⟩, by decide +kernel, t_16⟩
abbrev MtX12_manySame : Mt := (cX12_manySame, 4, "ExactlySaidModel", (Option.some Jvm.ClassFile.FieldType.int), 5, 174, false)
set_option maxRecDepth 100000 in
set_option maxHeartbeats 4000000 in
theorem bX12_manySame_42 {X : Xt} {σf : St} {r : Int32} (hX1 : X.2.2.1 = σf) (hX2 : X.2.2.2 = .inl (some (.int r))) {k4 : St → Nat → Int32 → Int32 → Int32 → Option (St × Int32)} (hk4 : ∀ (σ : St) (x0 : Nat) (x1 : Int32) (x2 : Int32) (x3 : Int32), k4 σ x0 x1 x2 x3 = some (σf, r) → G MtX12_manySame X σ 4 [(0, rv x0), (1, .int x1), (2, .int x2), (3, .int x3)] []) {σ : St} {x0 : Nat} {x1 : Int32} {x3 : Int32} {y0 : Int32} {y1 : Int32} (hf : fX12_manySame_42 k4 σ x0 x1 x3 y0 y1 = some (σf, r)) : G MtX12_manySame X σ 42 [(0, rv x0), (1, .int x1), (3, .int x3)] [.int y1, .int y0] := by
  unfold fX12_manySame_42 at hf
  refine g_iadd dX12_manySame_42 ?_
  obtain ⟨v1, ev1, hf⟩ := nm_el hf
  refine g_topI ev1 ?_
  refine g_istore_n (i := 2) (L' := [(2, .int v1), (0, rv x0), (1, .int x1), (3, .int x3)]) dX12_manySame_43 rfl (Nat.le_of_ble_eq_true rfl) rfl ?_
  obtain ⟨v2, ev2, hf⟩ := nm_el hf
  refine g_iinc (L' := [(3, .int v2), (2, .int v1), (0, rv x0), (1, .int x1)]) (j := 3) (v := v2) dX12_manySame_44 rfl (by rw [ev2]; rfl) (Nat.le_of_ble_eq_true rfl) rfl ?_
  refine g_goto (tgt := 4) dX12_manySame_47 (by decide) ?_
  refine g_sub (L' := [(0, rv x0), (1, .int x1), (2, .int v1), (3, .int v2)]) [2, 3, 1, 0] rfl ?_
  exact hk4 _ _ _ _ _ hf

set_option maxRecDepth 100000 in
set_option maxHeartbeats 4000000 in
theorem bX12_manySame_4 {X : Xt} {σf : St} {r : Int32} (hX1 : X.2.2.1 = σf) (hX2 : X.2.2.2 = .inl (some (.int r))) : ∀ (n : Nat) (σ : St) (x0 : Nat) (x1 : Int32) (x2 : Int32) (x3 : Int32), fX12_manySame_4 n σ x0 x1 x2 x3 = some (σf, r) → G MtX12_manySame X σ 4 [(0, rv x0), (1, .int x1), (2, .int x2), (3, .int x3)] [] := by
  intro n
  induction n with
  | zero => intro σ x0 x1 x2 x3 hf; cases hf
  | succ n ih =>
    intro σ x0 x1 x2 x3 hf
    rw [fX12_manySame_4] at hf
    refine g_iload_n (j := 3) dX12_manySame_4 rfl rfl ?_
    refine g_aload_n (j := 0) dX12_manySame_5 rfl rfl ?_
    obtain ⟨v1, ev1, hf⟩ := ob hf
    refine g_getF dX12_manySame_6 ev1 t_2035 hin16 hc16 (by decide) rfl ?_
    refine g_iload_n (j := 1) dX12_manySame_9 rfl rfl ?_
    obtain ⟨v2, ev2, hf⟩ := ob hf
    refine g_iald dX12_manySame_10 ev2 ?_
    refine g_icmp_ge (tgt := 50) dX12_manySame_11 (by decide) (fun c3 => ?_) (fun c3 => ?_)
    · rw [if_pos c3] at hf
      refine g_iload_n (j := 2) dX12_manySame_50 rfl rfl ?_
      exact g_iret dX12_manySame_51 rfl rfl hX2 hX1 hf
    · rw [if_neg c3] at hf
      refine g_iload_n (j := 2) dX12_manySame_14 rfl rfl ?_
      refine g_aload_n (j := 0) dX12_manySame_15 rfl rfl ?_
      refine g_aload_n (j := 0) dX12_manySame_16 rfl rfl ?_
      obtain ⟨v4, ev4, hf⟩ := ob hf
      refine g_getF dX12_manySame_17 ev4 t_2034 hin16 hc16 (by decide) rfl ?_
      refine g_bipush (v := 50) dX12_manySame_20 (by decide) ?_
      refine g_iload_n (j := 1) dX12_manySame_22 rfl rfl ?_
      refine g_imul dX12_manySame_23 ?_
      refine g_iload_n (j := 3) dX12_manySame_24 rfl rfl ?_
      refine g_iadd dX12_manySame_25 ?_
      obtain ⟨v5, ev5, hf⟩ := ob hf
      refine g_iald dX12_manySame_26 ev5 ?_
      refine g_aload_n (j := 0) dX12_manySame_27 rfl rfl ?_
      obtain ⟨v6, ev6, hf⟩ := ob hf
      refine g_getI dX12_manySame_28 ev6 t_2024 hin16 hc16 (by decide) rfl ?_
      obtain ⟨_, h9, hf⟩ := ob hf
      obtain ⟨σ7, v8, eσ7, hf⟩ := cb_el hf
      refine g_callV_i dX12_manySame_31 (wX12_order _ eσ7) (okX12_order _ (by decide) (by decide)) (ckK_el h9) hc16 t_2471 t_2473 s_X12_order rfl (Nat.le_trans (cat_le _) (Nat.le_of_ble_eq_true rfl)) rfl ?_
      refine g_if_ne (tgt := 41) dX12_manySame_34 (by decide) (fun c10 => ?_) (fun c10 => ?_)
      · rw [if_neg c10] at hf
        refine g_iconst (v := 0) dX12_manySame_41 (by decide) ?_
        refine g_sub (L' := [(0, rv x0), (1, .int x1), (3, .int x3)]) [0, 1, 3] rfl ?_
        exact bX12_manySame_42 hX1 hX2 (fun σ x0 x1 x2 x3 hf => ih σ x0 x1 x2 x3 hf) hf
      · rw [if_pos c10] at hf
        refine g_iconst (v := 1) dX12_manySame_37 (by decide) ?_
        refine g_goto (tgt := 42) dX12_manySame_38 (by decide) ?_
        refine g_sub (L' := [(0, rv x0), (1, .int x1), (3, .int x3)]) [0, 1, 3] rfl ?_
        exact bX12_manySame_42 hX1 hX2 (fun σ x0 x1 x2 x3 hf => ih σ x0 x1 x2 x3 hf) hf

set_option maxRecDepth 100000 in
set_option maxHeartbeats 4000000 in
theorem wX12_manySame (l : Launch) {σ σf : St} {x0 : Nat} {x1 : Int32} {r : Int32} (hf : fX12_manySame σ x0 x1 = some (σf, r)) : Con MtX12_manySame yX12_manySame l σ [rv x0, .int x1] σf (some (.int r)) := by
  refine Con.of (by decide +kernel) rfl (fun h => absurd (show false = true from h) (by decide)) (by simp only [sl_n, sl_r, sl_i, sl_l]; exact Nat.le_of_ble_eq_true rfl) ?_
  rw [show lv_args 0 [rv x0, .int x1] = [(0, rv x0), (1, .int x1)] by simp only [la_n, la_r, la_i, la_l] <;> rfl]
  have hX1 : ((l, σ, σf, .inl (some (.int r))) : Xt).2.2.1 = σf := rfl
  have hX2 : ((l, σ, σf, .inl (some (.int r))) : Xt).2.2.2 = .inl (some (.int r)) := rfl
  unfold fX12_manySame at hf
  refine g_iconst (v := 0) dX12_manySame_0 (by decide) ?_
  refine g_istore_n (i := 2) (L' := [(2, .int 0), (0, rv x0), (1, .int x1)]) dX12_manySame_1 rfl (Nat.le_of_ble_eq_true rfl) rfl ?_
  refine g_iconst (v := 0) dX12_manySame_2 (by decide) ?_
  refine g_istore_n (i := 3) (L' := [(3, .int 0), (2, .int 0), (0, rv x0), (1, .int x1)]) dX12_manySame_3 rfl (Nat.le_of_ble_eq_true rfl) rfl ?_
  refine g_sub (L' := [(0, rv x0), (1, .int x1), (2, .int 0), (3, .int 0)]) [2, 3, 1, 0] rfl ?_
  exact bX12_manySame_4 hX1 hX2 FU _ _ _ _ _ hf

theorem okX12_manySame (M : Mt) (h1 : 5 + 1 ≤ M.2.2.2.2.1) (h2 : 8 + (4 + 11) + 174 ≤ M.2.2.2.2.2.1) : CallOk M MtX12_manySame yX12_manySame 1 := ⟨t_2738, h1, h2, ⟨by decide, by decide⟩, by decide +kernel, t_16⟩
abbrev MtX12_out : Mt := (cX12_out, 4, "ExactlySaidModel", (Option.some Jvm.ClassFile.FieldType.int), 6, 197, false)
set_option maxRecDepth 100000 in
set_option maxHeartbeats 4000000 in
theorem bX12_out_58 {X : Xt} {σf : St} {r : Int32} (hX1 : X.2.2.1 = σf) (hX2 : X.2.2.2 = .inl (some (.int r))) : ∀ (n : Nat) (σ : St) (x0 : Nat) (x1 : Int32) (x3 : Int32), fX12_out_58 n σ x0 x1 x3 = some (σf, r) → G MtX12_out X σ 58 [(0, rv x0), (1, .int x1), (3, .int x3)] [] := by
  intro n
  induction n with
  | zero => intro σ x0 x1 x3 hf; cases hf
  | succ n ih =>
    intro σ x0 x1 x3 hf
    rw [fX12_out_58] at hf
    refine g_iload_n (j := 2) dX12_out_58 rfl rfl ?_
    refine g_aload_n (j := 0) dX12_out_59 rfl rfl ?_
    obtain ⟨v1, ev1, hf⟩ := ob hf
    refine g_getF dX12_out_60 ev1 t_2035 hin16 hc16 (by decide) rfl ?_
    refine g_iload_n (j := 1) dX12_out_63 rfl rfl ?_
    obtain ⟨v2, ev2, hf⟩ := ob hf
    refine g_iald dX12_out_64 ev2 ?_
    refine g_icmp_ge (tgt := 98) dX12_out_65 (by decide) (fun c3 => ?_) (fun c3 => ?_)
    · rw [if_pos c3] at hf
      refine g_aload_n (j := 0) dX12_out_98 rfl rfl ?_
      obtain ⟨_, h6, hf⟩ := ob hf
      obtain ⟨σ4, v5, eσ4, hf⟩ := cb_el hf
      refine g_callV_v dX12_out_99 (wX12_changes _ eσ4) (okX12_changes _ (by decide) (by decide)) (ckK_el h6) hc16 t_2519 t_2521 s_X12_changes rfl (Nat.le_trans (cat_le _) (Nat.le_of_ble_eq_true rfl)) rfl ?_
      refine g_aload_n (j := 0) dX12_out_102 rfl rfl ?_
      obtain ⟨v7, ev7, hf⟩ := ob hf
      refine g_getF dX12_out_103 ev7 t_2035 hin16 hc16 (by decide) rfl ?_
      refine g_iload_n (j := 1) dX12_out_106 rfl rfl ?_
      obtain ⟨v8, ev8, hf⟩ := ob hf
      refine g_iald dX12_out_107 ev8 ?_
      exact g_iret dX12_out_108 rfl rfl hX2 hX1 hf
    · rw [if_neg c3] at hf
      refine g_aload_n (j := 0) dX12_out_68 rfl rfl ?_
      obtain ⟨v9, ev9, hf⟩ := ob hf
      refine g_getF dX12_out_69 ev9 t_2034 hin16 hc16 (by decide) rfl ?_
      refine g_bipush (v := 50) dX12_out_72 (by decide) ?_
      refine g_iload_n (j := 1) dX12_out_74 rfl rfl ?_
      refine g_imul dX12_out_75 ?_
      refine g_iload_n (j := 2) dX12_out_76 rfl rfl ?_
      refine g_iadd dX12_out_77 ?_
      refine g_aload_n (j := 0) dX12_out_78 rfl rfl ?_
      obtain ⟨v10, ev10, hf⟩ := ob hf
      refine g_getF dX12_out_79 ev10 t_2034 hin16 hc16 (by decide) rfl ?_
      refine g_bipush (v := 50) dX12_out_82 (by decide) ?_
      refine g_iload_n (j := 1) dX12_out_84 rfl rfl ?_
      refine g_imul dX12_out_85 ?_
      refine g_iload_n (j := 2) dX12_out_86 rfl rfl ?_
      refine g_iadd dX12_out_87 ?_
      refine g_iconst (v := 1) dX12_out_88 (by decide) ?_
      refine g_iadd dX12_out_89 ?_
      obtain ⟨v11, ev11, hf⟩ := ob hf
      refine g_iald dX12_out_90 ev11 ?_
      obtain ⟨σ12, eσ12, hf⟩ := ob hf
      refine g_iast dX12_out_91 eσ12 ?_
      obtain ⟨v13, ev13, hf⟩ := nm_el hf
      refine g_iinc (L' := [(3, .int v13), (0, rv x0), (1, .int x1)]) (j := 2) (v := v13) dX12_out_92 rfl (by rw [ev13]; rfl) (Nat.le_of_ble_eq_true rfl) rfl ?_
      refine g_goto (tgt := 58) dX12_out_95 (by decide) ?_
      refine g_sub (L' := [(0, rv x0), (1, .int x1), (3, .int v13)]) [1, 2, 0] rfl ?_
      exact ih _ _ _ _ hf

set_option maxRecDepth 100000 in
set_option maxHeartbeats 4000000 in
theorem bX12_out_27 {X : Xt} {σf : St} {r : Int32} (hX1 : X.2.2.1 = σf) (hX2 : X.2.2.2 = .inl (some (.int r))) {σ : St} {x0 : Nat} {x1 : Int32} {y0 : Nat} {y1 : Int32} (hf : fX12_out_27 σ x0 x1 y0 y1 = some (σf, r)) : G MtX12_out X σ 27 [(0, rv x0), (1, .int x1)] [.int y1, rv y0] := by
  unfold fX12_out_27 at hf
  refine g_iconst (v := 2) dX12_out_27 (by decide) ?_
  obtain ⟨_, h3, hf⟩ := ob hf
  obtain ⟨σ1, v2, eσ1, hf⟩ := cb_el hf
  refine g_callV_i dX12_out_28 (wX12_fails _ eσ1) (okX12_fails _ (by decide) (by decide)) (ckK_el h3) hc16 t_2225 t_2227 s_X12_fails rfl (Nat.le_trans (cat_le _) (Nat.le_of_ble_eq_true rfl)) rfl ?_
  refine g_if_eq (tgt := 36) dX12_out_31 (by decide) (fun c4 => ?_) (fun c4 => ?_)
  · rw [if_pos c4] at hf
    refine g_aload_n (j := 0) dX12_out_36 rfl rfl ?_
    obtain ⟨_, h7, hf⟩ := ob hf
    obtain ⟨σ5, v6, eσ5, hf⟩ := cb_el hf
    refine g_callV_v dX12_out_37 (wX12_saves _ eσ5) (okX12_saves _ (by decide) (by decide)) (ckK_el h7) hc16 t_2491 t_2493 s_X12_saves rfl (Nat.le_trans (cat_le _) (Nat.le_of_ble_eq_true rfl)) rfl ?_
    refine g_aload_n (j := 0) dX12_out_40 rfl rfl ?_
    refine g_iload_n (j := 1) dX12_out_41 rfl rfl ?_
    obtain ⟨_, h10, hf⟩ := ob hf
    obtain ⟨σ8, v9, eσ8, hf⟩ := cb_el hf
    refine g_callV_i dX12_out_42 (wX12_manyBelow _ eσ8) (okX12_manyBelow _ (by decide) (by decide)) (ckK_el h10) hc16 t_2727 t_2729 s_X12_manyBelow rfl (Nat.le_trans (cat_le _) (Nat.le_of_ble_eq_true rfl)) rfl ?_
    refine g_istore_n (i := 2) (L' := [(2, .int v9), (0, rv x0), (1, .int x1)]) dX12_out_45 rfl (Nat.le_of_ble_eq_true rfl) rfl ?_
    refine g_aload_n (j := 1) dX12_out_46 rfl rfl ?_
    obtain ⟨v11, ev11, hf⟩ := ob hf
    refine g_getF dX12_out_47 ev11 t_2035 hin16 hc16 (by decide) rfl ?_
    refine g_iload_n (j := 2) dX12_out_50 rfl rfl ?_
    refine g_dup2 dX12_out_51 rfl (rv_cat _) ?_
    obtain ⟨v12, ev12, hf⟩ := ob hf
    refine g_iald dX12_out_52 ev12 ?_
    refine g_iconst (v := 1) dX12_out_53 (by decide) ?_
    refine g_isub dX12_out_54 ?_
    obtain ⟨σ13, eσ13, hf⟩ := ob hf
    refine g_iast dX12_out_55 eσ13 ?_
    refine g_iload_n (j := 0) dX12_out_56 rfl rfl ?_
    refine g_istore_n (i := 3) (L' := [(3, .int v9), (2, .int v9), (0, rv x0), (1, .int x1)]) dX12_out_57 rfl (Nat.le_of_ble_eq_true rfl) rfl ?_
    refine g_sub (L' := [(0, rv x0), (1, .int x1), (3, .int v9)]) [2, 3, 0] rfl ?_
    exact bX12_out_58 hX1 hX2 FU _ _ _ _ hf
  · rw [if_neg c4] at hf
    refine g_iconst (v := 0) dX12_out_34 (by decide) ?_
    exact g_iret dX12_out_35 rfl rfl hX2 hX1 hf

set_option maxRecDepth 100000 in
set_option maxHeartbeats 4000000 in
theorem wX12_out (l : Launch) {σ σf : St} {x0 : Nat} {x1 : Int32} {r : Int32} (hf : fX12_out σ x0 x1 = some (σf, r)) : Con MtX12_out yX12_out l σ [rv x0, .int x1] σf (some (.int r)) := by
  refine Con.of (by decide +kernel) rfl (fun h => absurd (show false = true from h) (by decide)) (by simp only [sl_n, sl_r, sl_i, sl_l]; exact Nat.le_of_ble_eq_true rfl) ?_
  rw [show lv_args 0 [rv x0, .int x1] = [(0, rv x0), (1, .int x1)] by simp only [la_n, la_r, la_i, la_l] <;> rfl]
  have hX1 : ((l, σ, σf, .inl (some (.int r))) : Xt).2.2.1 = σf := rfl
  have hX2 : ((l, σ, σf, .inl (some (.int r))) : Xt).2.2.2 = .inl (some (.int r)) := rfl
  unfold fX12_out at hf
  refine g_aload_n (j := 0) dX12_out_0 rfl rfl ?_
  refine g_iconst (v := 0) dX12_out_1 (by decide) ?_
  obtain ⟨σ1, eσ1, hf⟩ := ob hf
  refine g_putI dX12_out_2 eσ1 (Or.inl t_1967) hin16 hc16 (by decide) hty16 hnm16 (Or.inl rfl) rfl rfl rfl ?_
  refine g_aload_n (j := 0) dX12_out_5 rfl rfl ?_
  refine g_iload_n (j := 1) dX12_out_6 rfl rfl ?_
  obtain ⟨_, h4, hf⟩ := ob hf
  obtain ⟨σ2, v3, eσ2, hf⟩ := cb_el hf
  refine g_callV_i dX12_out_7 (wX12_noRow _ eσ2) (okX12_noRow _ (by decide) (by decide)) (ckK_el h4) hc16 t_2723 t_2725 s_X12_noRow rfl (Nat.le_trans (cat_le _) (Nat.le_of_ble_eq_true rfl)) rfl ?_
  refine g_if_ne (tgt := 34) dX12_out_10 (by decide) (fun c5 => ?_) (fun c5 => ?_)
  · rw [if_neg c5] at hf
    refine g_iconst (v := 0) dX12_out_34 (by decide) ?_
    exact g_iret dX12_out_35 rfl rfl hX2 hX1 hf
  · rw [if_pos c5] at hf
    refine g_aload_n (j := 0) dX12_out_13 rfl rfl ?_
    refine g_aload_n (j := 0) dX12_out_14 rfl rfl ?_
    refine g_iload_n (j := 1) dX12_out_15 rfl rfl ?_
    obtain ⟨_, h8, hf⟩ := ob hf
    obtain ⟨σ6, v7, eσ6, hf⟩ := cb_el hf
    refine g_callV_i dX12_out_16 (wX12_manySame _ eσ6) (okX12_manySame _ (by decide) (by decide)) (ckK_el h8) hc16 t_2735 t_2737 s_X12_manySame rfl (Nat.le_trans (cat_le _) (Nat.le_of_ble_eq_true rfl)) rfl ?_
    refine g_if_le (tgt := 26) dX12_out_19 (by decide) (fun c9 => ?_) (fun c9 => ?_)
    · rw [if_pos c9] at hf
      refine g_iconst (v := 0) dX12_out_26 (by decide) ?_
      exact bX12_out_27 hX1 hX2 hf
    · rw [if_neg c9] at hf
      refine g_iconst (v := 1) dX12_out_22 (by decide) ?_
      refine g_goto (tgt := 27) dX12_out_23 (by decide) ?_
      exact bX12_out_27 hX1 hX2 hf

theorem okX12_out (M : Mt) (h1 : 6 + 1 ≤ M.2.2.2.2.1) (h2 : 8 + (4 + 11) + 197 ≤ M.2.2.2.2.2.1) : CallOk M MtX12_out yX12_out 1 := ⟨t_2734, h1, h2, ⟨by decide, by decide⟩, by decide +kernel, t_16⟩
abbrev MtX12_empty : Mt := (cX12_empty, 3, "ExactlySaidModel", (Option.some Jvm.ClassFile.FieldType.int), 3, 129, false)
set_option maxRecDepth 100000 in
set_option maxHeartbeats 4000000 in
theorem wX12_empty (l : Launch) {σ σf : St} {x0 : Nat} {x1 : Int32} {r : Int32} (hf : fX12_empty σ x0 x1 = some (σf, r)) : Con MtX12_empty yX12_empty l σ [rv x0, .int x1] σf (some (.int r)) := by
  refine Con.of (by decide +kernel) rfl (fun h => absurd (show false = true from h) (by decide)) (by simp only [sl_n, sl_r, sl_i, sl_l]; exact Nat.le_of_ble_eq_true rfl) ?_
  rw [show lv_args 0 [rv x0, .int x1] = [(0, rv x0), (1, .int x1)] by simp only [la_n, la_r, la_i, la_l] <;> rfl]
  have hX1 : ((l, σ, σf, .inl (some (.int r))) : Xt).2.2.1 = σf := rfl
  have hX2 : ((l, σ, σf, .inl (some (.int r))) : Xt).2.2.2 = .inl (some (.int r)) := rfl
  unfold fX12_empty at hf
  refine g_aload_n (j := 0) dX12_empty_0 rfl rfl ?_
  refine g_iconst (v := 0) dX12_empty_1 (by decide) ?_
  obtain ⟨σ1, eσ1, hf⟩ := ob hf
  refine g_putI dX12_empty_2 eσ1 (Or.inl t_1967) hin16 hc16 (by decide) hty16 hnm16 (Or.inl rfl) rfl rfl rfl ?_
  refine g_aload_n (j := 0) dX12_empty_5 rfl rfl ?_
  refine g_iload_n (j := 1) dX12_empty_6 rfl rfl ?_
  obtain ⟨_, h4, hf⟩ := ob hf
  obtain ⟨σ2, v3, eσ2, hf⟩ := cb_el hf
  refine g_callV_i dX12_empty_7 (wX12_noRow _ eσ2) (okX12_noRow _ (by decide) (by decide)) (ckK_el h4) hc16 t_2723 t_2725 s_X12_noRow rfl (Nat.le_trans (cat_le _) (Nat.le_of_ble_eq_true rfl)) rfl ?_
  refine g_if_eq (tgt := 15) dX12_empty_10 (by decide) (fun c5 => ?_) (fun c5 => ?_)
  · rw [if_pos c5] at hf
    refine g_aload_n (j := 0) dX12_empty_15 rfl rfl ?_
    obtain ⟨_, h8, hf⟩ := ob hf
    obtain ⟨σ6, v7, eσ6, hf⟩ := cb_el hf
    refine g_callV_v dX12_empty_16 (wX12_saves _ eσ6) (okX12_saves _ (by decide) (by decide)) (ckK_el h8) hc16 t_2491 t_2493 s_X12_saves rfl (Nat.le_trans (cat_le _) (Nat.le_of_ble_eq_true rfl)) rfl ?_
    refine g_aload_n (j := 0) dX12_empty_19 rfl rfl ?_
    obtain ⟨v9, ev9, hf⟩ := ob hf
    refine g_getF dX12_empty_20 ev9 t_2035 hin16 hc16 (by decide) rfl ?_
    refine g_iload_n (j := 1) dX12_empty_23 rfl rfl ?_
    obtain ⟨v10, ev10, hf⟩ := ob hf
    refine g_iald dX12_empty_24 ev10 ?_
    refine g_istore_n (i := 2) (L' := [(2, .int v10), (0, rv x0), (1, .int x1)]) dX12_empty_25 rfl (Nat.le_of_ble_eq_true rfl) rfl ?_
    refine g_aload_n (j := 1) dX12_empty_26 rfl rfl ?_
    obtain ⟨v11, ev11, hf⟩ := ob hf
    refine g_getF dX12_empty_27 ev11 t_2035 hin16 hc16 (by decide) rfl ?_
    refine g_iload_n (j := 2) dX12_empty_30 rfl rfl ?_
    refine g_iconst (v := 0) dX12_empty_31 (by decide) ?_
    obtain ⟨σ12, eσ12, hf⟩ := ob hf
    refine g_iast dX12_empty_32 eσ12 ?_
    refine g_aload_n (j := 1) dX12_empty_33 rfl rfl ?_
    obtain ⟨_, h15, hf⟩ := ob hf
    obtain ⟨σ13, v14, eσ13, hf⟩ := cb_el hf
    refine g_callV_v dX12_empty_34 (wX12_changes _ eσ13) (okX12_changes _ (by decide) (by decide)) (ckK_el h15) hc16 t_2519 t_2521 s_X12_changes rfl (Nat.le_trans (cat_le _) (Nat.le_of_ble_eq_true rfl)) rfl ?_
    refine g_iload_n (j := 0) dX12_empty_37 rfl rfl ?_
    exact g_iret dX12_empty_38 rfl rfl hX2 hX1 hf
  · rw [if_neg c5] at hf
    refine g_iconst (v := 0) dX12_empty_13 (by decide) ?_
    exact g_iret dX12_empty_14 rfl rfl hX2 hX1 hf

theorem okX12_empty (M : Mt) (h1 : 3 + 1 ≤ M.2.2.2.2.1) (h2 : 8 + (3 + 11) + 129 ≤ M.2.2.2.2.2.1) : CallOk M MtX12_empty yX12_empty 1 := ⟨t_2742, h1, h2, ⟨by decide, by decide⟩, by decide +kernel, t_16⟩
abbrev MtX12_count : Mt := (cX12_count, 3, "ExactlySaidModel", (Option.some Jvm.ClassFile.FieldType.int), 6, 197, false)
set_option maxRecDepth 100000 in
set_option maxHeartbeats 4000000 in
theorem wX12_count (l : Launch) {σ σf : St} {x0 : Nat} {x1 : Int32} {x2 : Int32} {r : Int32} (hf : fX12_count σ x0 x1 x2 = some (σf, r)) : Con MtX12_count yX12_count l σ [rv x0, .int x1, .int x2] σf (some (.int r)) := by
  refine Con.of (by decide +kernel) rfl (fun h => absurd (show false = true from h) (by decide)) (by simp only [sl_n, sl_r, sl_i, sl_l]; exact Nat.le_of_ble_eq_true rfl) ?_
  rw [show lv_args 0 [rv x0, .int x1, .int x2] = [(0, rv x0), (1, .int x1), (2, .int x2)] by simp only [la_n, la_r, la_i, la_l] <;> rfl]
  have hX1 : ((l, σ, σf, .inl (some (.int r))) : Xt).2.2.1 = σf := rfl
  have hX2 : ((l, σ, σf, .inl (some (.int r))) : Xt).2.2.2 = .inl (some (.int r)) := rfl
  unfold fX12_count at hf
  refine g_aload_n (j := 0) dX12_count_0 rfl rfl ?_
  refine g_iconst (v := 0) dX12_count_1 (by decide) ?_
  obtain ⟨σ1, eσ1, hf⟩ := ob hf
  refine g_putI dX12_count_2 eσ1 (Or.inl t_1967) hin16 hc16 (by decide) hty16 hnm16 (Or.inl rfl) rfl rfl rfl ?_
  refine g_aload_n (j := 0) dX12_count_5 rfl rfl ?_
  refine g_iload_n (j := 1) dX12_count_6 rfl rfl ?_
  obtain ⟨_, h4, hf⟩ := ob hf
  obtain ⟨σ2, v3, eσ2, hf⟩ := cb_el hf
  refine g_callV_i dX12_count_7 (wX12_noRow _ eσ2) (okX12_noRow _ (by decide) (by decide)) (ckK_el h4) hc16 t_2723 t_2725 s_X12_noRow rfl (Nat.le_trans (cat_le _) (Nat.le_of_ble_eq_true rfl)) rfl ?_
  refine g_if_eq (tgt := 17) dX12_count_10 (by decide) (fun c5 => ?_) (fun c5 => ?_)
  · rw [if_pos c5] at hf
    refine g_iload_n (j := 2) dX12_count_17 rfl rfl ?_
    refine g_if_eq (tgt := 29) dX12_count_18 (by decide) (fun c6 => ?_) (fun c6 => ?_)
    · rw [if_pos c6] at hf
      refine g_aload_n (j := 0) dX12_count_29 rfl rfl ?_
      refine g_iload_n (j := 1) dX12_count_30 rfl rfl ?_
      obtain ⟨_, h9, hf⟩ := ob hf
      obtain ⟨σ7, v8, eσ7, hf⟩ := cb_el hf
      refine g_callV_i dX12_count_31 (wX12_manyBelow _ eσ7) (okX12_manyBelow _ (by decide) (by decide)) (ckK_el h9) hc16 t_2727 t_2729 s_X12_manyBelow rfl (Nat.le_trans (cat_le _) (Nat.le_of_ble_eq_true rfl)) rfl ?_
      exact g_iret dX12_count_34 rfl rfl hX2 hX1 hf
    · rw [if_neg c6] at hf
      refine g_aload_n (j := 0) dX12_count_21 rfl rfl ?_
      refine g_iload_n (j := 1) dX12_count_22 rfl rfl ?_
      obtain ⟨_, h12, hf⟩ := ob hf
      obtain ⟨σ10, v11, eσ10, hf⟩ := cb_el hf
      refine g_callV_i dX12_count_23 (wX12_manySame _ eσ10) (okX12_manySame _ (by decide) (by decide)) (ckK_el h12) hc16 t_2735 t_2737 s_X12_manySame rfl (Nat.le_trans (cat_le _) (Nat.le_of_ble_eq_true rfl)) rfl ?_
      refine g_goto (tgt := 34) dX12_count_26 (by decide) ?_
      exact g_iret dX12_count_34 rfl rfl hX2 hX1 hf
  · rw [if_neg c5] at hf
    refine g_iconst (v := 0) dX12_count_13 (by decide) ?_
    refine g_goto (tgt := 34) dX12_count_14 (by decide) ?_
    exact g_iret dX12_count_34 rfl rfl hX2 hX1 hf

theorem okX12_count (M : Mt) (h1 : 6 + 1 ≤ M.2.2.2.2.1) (h2 : 8 + (3 + 11) + 197 ≤ M.2.2.2.2.2.1) : CallOk M MtX12_count yX12_count 2 := ⟨t_2746, h1, h2, ⟨by decide, by decide⟩, by decide +kernel, t_16⟩
abbrev MtX12_takeLeast : Mt := (cX12_takeLeast, 3, "ExactlySaidModel", (Option.some Jvm.ClassFile.FieldType.int), 4, 150, false)
set_option maxRecDepth 100000 in
set_option maxHeartbeats 4000000 in
theorem bX12_takeLeast_34 {X : Xt} {σf : St} {r : Int32} (hX1 : X.2.2.1 = σf) (hX2 : X.2.2.2 = .inl (some (.int r))) {σ : St} (hf : fX12_takeLeast_34 σ  = some (σf, r)) : G MtX12_takeLeast X σ 34 [] [] := by
  unfold fX12_takeLeast_34 at hf
  refine g_iconst (v := 0) dX12_takeLeast_34 (by decide) ?_
  refine g_goto (tgt := 53) dX12_takeLeast_35 (by decide) ?_
  exact g_iret dX12_takeLeast_53 rfl rfl hX2 hX1 hf

set_option maxRecDepth 100000 in
set_option maxHeartbeats 4000000 in
theorem wX12_takeLeast (l : Launch) {σ σf : St} {x0 : Nat} {x1 : Int32} {x2 : Int32} {r : Int32} (hf : fX12_takeLeast σ x0 x1 x2 = some (σf, r)) : Con MtX12_takeLeast yX12_takeLeast l σ [rv x0, .int x1, .int x2] σf (some (.int r)) := by
  refine Con.of (by decide +kernel) rfl (fun h => absurd (show false = true from h) (by decide)) (by simp only [sl_n, sl_r, sl_i, sl_l]; exact Nat.le_of_ble_eq_true rfl) ?_
  rw [show lv_args 0 [rv x0, .int x1, .int x2] = [(0, rv x0), (1, .int x1), (2, .int x2)] by simp only [la_n, la_r, la_i, la_l] <;> rfl]
  have hX1 : ((l, σ, σf, .inl (some (.int r))) : Xt).2.2.1 = σf := rfl
  have hX2 : ((l, σ, σf, .inl (some (.int r))) : Xt).2.2.2 = .inl (some (.int r)) := rfl
  unfold fX12_takeLeast at hf
  refine g_aload_n (j := 0) dX12_takeLeast_0 rfl rfl ?_
  refine g_iconst (v := 0) dX12_takeLeast_1 (by decide) ?_
  obtain ⟨σ1, eσ1, hf⟩ := ob hf
  refine g_putI dX12_takeLeast_2 eσ1 (Or.inl t_1967) hin16 hc16 (by decide) hty16 hnm16 (Or.inl rfl) rfl rfl rfl ?_
  refine g_aload_n (j := 0) dX12_takeLeast_5 rfl rfl ?_
  refine g_iload_n (j := 1) dX12_takeLeast_6 rfl rfl ?_
  obtain ⟨_, h4, hf⟩ := ob hf
  obtain ⟨σ2, v3, eσ2, hf⟩ := cb_el hf
  refine g_callV_i dX12_takeLeast_7 (wX12_noRow _ eσ2) (okX12_noRow _ (by decide) (by decide)) (ckK_el h4) hc16 t_2723 t_2725 s_X12_noRow rfl (Nat.le_trans (cat_le _) (Nat.le_of_ble_eq_true rfl)) rfl ?_
  refine g_if_ne (tgt := 34) dX12_takeLeast_10 (by decide) (fun c5 => ?_) (fun c5 => ?_)
  · rw [if_neg c5] at hf
    refine g_sub (L' := []) [] rfl ?_
    exact bX12_takeLeast_34 hX1 hX2 hf
  · rw [if_pos c5] at hf
    refine g_aload_n (j := 0) dX12_takeLeast_13 rfl rfl ?_
    refine g_iload_n (j := 2) dX12_takeLeast_14 rfl rfl ?_
    refine g_iconst (v := 0) dX12_takeLeast_15 (by decide) ?_
    refine g_aload_n (j := 0) dX12_takeLeast_16 rfl rfl ?_
    obtain ⟨v6, ev6, hf⟩ := ob hf
    refine g_getF dX12_takeLeast_17 ev6 t_2035 hin16 hc16 (by decide) rfl ?_
    refine g_iload_n (j := 1) dX12_takeLeast_20 rfl rfl ?_
    obtain ⟨v7, ev7, hf⟩ := ob hf
    refine g_iald dX12_takeLeast_21 ev7 ?_
    refine g_iconst (v := 1) dX12_takeLeast_22 (by decide) ?_
    refine g_isub dX12_takeLeast_23 ?_
    obtain ⟨σ8, v9, eσ8, hf⟩ := cb_el hf
    refine g_callS_i dX12_takeLeast_24 (wX12_in _ eσ8) (okX12_in _ (by decide) (by decide)) t_2257 t_2258 rfl (Nat.le_trans (cat_le _) (Nat.le_of_ble_eq_true rfl)) rfl ?_
    refine g_iconst (v := 2) dX12_takeLeast_27 (by decide) ?_
    obtain ⟨_, h12, hf⟩ := ob hf
    obtain ⟨σ10, v11, eσ10, hf⟩ := cb_el hf
    refine g_callV_i dX12_takeLeast_28 (wX12_fails _ eσ10) (okX12_fails _ (by decide) (by decide)) (ckK_el h12) hc16 t_2225 t_2227 s_X12_fails rfl (Nat.le_trans (cat_le _) (Nat.le_of_ble_eq_true rfl)) rfl ?_
    refine g_if_eq (tgt := 38) dX12_takeLeast_31 (by decide) (fun c13 => ?_) (fun c13 => ?_)
    · rw [if_pos c13] at hf
      refine g_aload_n (j := 0) dX12_takeLeast_38 rfl rfl ?_
      refine g_aload_n (j := 0) dX12_takeLeast_39 rfl rfl ?_
      obtain ⟨v14, ev14, hf⟩ := ob hf
      refine g_getF dX12_takeLeast_40 ev14 t_2034 hin16 hc16 (by decide) rfl ?_
      refine g_bipush (v := 50) dX12_takeLeast_43 (by decide) ?_
      refine g_iload_n (j := 1) dX12_takeLeast_45 rfl rfl ?_
      refine g_imul dX12_takeLeast_46 ?_
      refine g_iload_n (j := 2) dX12_takeLeast_47 rfl rfl ?_
      refine g_iadd dX12_takeLeast_48 ?_
      obtain ⟨v15, ev15, hf⟩ := ob hf
      refine g_iald dX12_takeLeast_49 ev15 ?_
      obtain ⟨_, h18, hf⟩ := ob hf
      obtain ⟨σ16, v17, eσ16, hf⟩ := cb_el hf
      refine g_callV_i dX12_takeLeast_50 (wX12_becomes _ eσ16) (okX12_becomes _ (by decide) (by decide)) (ckK_el h18) hc16 t_2615 t_2617 s_X12_becomes rfl (Nat.le_trans (cat_le _) (Nat.le_of_ble_eq_true rfl)) rfl ?_
      exact g_iret dX12_takeLeast_53 rfl rfl hX2 hX1 hf
    · rw [if_neg c13] at hf
      refine g_sub (L' := []) [] rfl ?_
      exact bX12_takeLeast_34 hX1 hX2 hf

theorem okX12_takeLeast (M : Mt) (h1 : 4 + 1 ≤ M.2.2.2.2.1) (h2 : 8 + (3 + 11) + 150 ≤ M.2.2.2.2.2.1) : CallOk M MtX12_takeLeast yX12_takeLeast 2 := ⟨t_2750, h1, h2, ⟨by decide, by decide⟩, by decide +kernel, t_16⟩
abbrev MtX12_takeNext : Mt := (cX12_takeNext, 4, "ExactlySaidModel", (Option.some Jvm.ClassFile.FieldType.int), 6, 197, false)
set_option maxRecDepth 100000 in
set_option maxHeartbeats 4000000 in
theorem bX12_takeNext_43 {X : Xt} {σf : St} {r : Int32} (hX1 : X.2.2.1 = σf) (hX2 : X.2.2.2 = .inl (some (.int r))) {σ : St} {x0 : Nat} {x1 : Int32} {x2 : Int32} {y0 : Nat} {y1 : Int32} (hf : fX12_takeNext_43 σ x0 x1 x2 y0 y1 = some (σf, r)) : G MtX12_takeNext X σ 43 [(0, rv x0), (1, .int x1), (2, .int x2)] [.int y1, rv y0] := by
  unfold fX12_takeNext_43 at hf
  refine g_iconst (v := 2) dX12_takeNext_43 (by decide) ?_
  obtain ⟨_, h3, hf⟩ := ob hf
  obtain ⟨σ1, v2, eσ1, hf⟩ := cb_el hf
  refine g_callV_i dX12_takeNext_44 (wX12_fails _ eσ1) (okX12_fails _ (by decide) (by decide)) (ckK_el h3) hc16 t_2225 t_2227 s_X12_fails rfl (Nat.le_trans (cat_le _) (Nat.le_of_ble_eq_true rfl)) rfl ?_
  refine g_if_eq (tgt := 52) dX12_takeNext_47 (by decide) (fun c4 => ?_) (fun c4 => ?_)
  · rw [if_pos c4] at hf
    refine g_aload_n (j := 0) dX12_takeNext_52 rfl rfl ?_
    refine g_aload_n (j := 0) dX12_takeNext_53 rfl rfl ?_
    obtain ⟨v5, ev5, hf⟩ := ob hf
    refine g_getF dX12_takeNext_54 ev5 t_2034 hin16 hc16 (by decide) rfl ?_
    refine g_bipush (v := 50) dX12_takeNext_57 (by decide) ?_
    refine g_iload_n (j := 1) dX12_takeNext_59 rfl rfl ?_
    refine g_imul dX12_takeNext_60 ?_
    refine g_iload_n (j := 2) dX12_takeNext_61 rfl rfl ?_
    refine g_iadd dX12_takeNext_62 ?_
    obtain ⟨v6, ev6, hf⟩ := ob hf
    refine g_iald dX12_takeNext_63 ev6 ?_
    obtain ⟨_, h9, hf⟩ := ob hf
    obtain ⟨σ7, v8, eσ7, hf⟩ := cb_el hf
    refine g_callV_i dX12_takeNext_64 (wX12_becomes _ eσ7) (okX12_becomes _ (by decide) (by decide)) (ckK_el h9) hc16 t_2615 t_2617 s_X12_becomes rfl (Nat.le_trans (cat_le _) (Nat.le_of_ble_eq_true rfl)) rfl ?_
    refine g_istore_n (i := 3) (L' := [(3, .int v8), (0, rv x0), (1, .int x1), (2, .int x2)]) dX12_takeNext_67 rfl (Nat.le_of_ble_eq_true rfl) rfl ?_
    refine g_aload_n (j := 1) dX12_takeNext_68 rfl rfl ?_
    refine g_iload_n (j := 2) dX12_takeNext_69 rfl rfl ?_
    obtain ⟨_, h12, hf⟩ := ob hf
    obtain ⟨σ10, v11, eσ10, hf⟩ := cb_el hf
    refine g_callV_i dX12_takeNext_70 (wX12_manySame _ eσ10) (okX12_manySame _ (by decide) (by decide)) (ckK_el h12) hc16 t_2735 t_2737 s_X12_manySame rfl (Nat.le_trans (cat_le _) (Nat.le_of_ble_eq_true rfl)) rfl ?_
    exact g_iret dX12_takeNext_73 rfl rfl hX2 hX1 hf
  · rw [if_neg c4] at hf
    refine g_iconst (v := 0) dX12_takeNext_50 (by decide) ?_
    exact g_iret dX12_takeNext_51 rfl rfl hX2 hX1 hf

set_option maxRecDepth 100000 in
set_option maxHeartbeats 4000000 in
theorem wX12_takeNext (l : Launch) {σ σf : St} {x0 : Nat} {x1 : Int32} {r : Int32} (hf : fX12_takeNext σ x0 x1 = some (σf, r)) : Con MtX12_takeNext yX12_takeNext l σ [rv x0, .int x1] σf (some (.int r)) := by
  refine Con.of (by decide +kernel) rfl (fun h => absurd (show false = true from h) (by decide)) (by simp only [sl_n, sl_r, sl_i, sl_l]; exact Nat.le_of_ble_eq_true rfl) ?_
  rw [show lv_args 0 [rv x0, .int x1] = [(0, rv x0), (1, .int x1)] by simp only [la_n, la_r, la_i, la_l] <;> rfl]
  have hX1 : ((l, σ, σf, .inl (some (.int r))) : Xt).2.2.1 = σf := rfl
  have hX2 : ((l, σ, σf, .inl (some (.int r))) : Xt).2.2.2 = .inl (some (.int r)) := rfl
  unfold fX12_takeNext at hf
  refine g_aload_n (j := 0) dX12_takeNext_0 rfl rfl ?_
  refine g_iconst (v := 0) dX12_takeNext_1 (by decide) ?_
  obtain ⟨σ1, eσ1, hf⟩ := ob hf
  refine g_putI dX12_takeNext_2 eσ1 (Or.inl t_1967) hin16 hc16 (by decide) hty16 hnm16 (Or.inl rfl) rfl rfl rfl ?_
  refine g_aload_n (j := 0) dX12_takeNext_5 rfl rfl ?_
  refine g_iload_n (j := 1) dX12_takeNext_6 rfl rfl ?_
  obtain ⟨_, h4, hf⟩ := ob hf
  obtain ⟨σ2, v3, eσ2, hf⟩ := cb_el hf
  refine g_callV_i dX12_takeNext_7 (wX12_noRow _ eσ2) (okX12_noRow _ (by decide) (by decide)) (ckK_el h4) hc16 t_2723 t_2725 s_X12_noRow rfl (Nat.le_trans (cat_le _) (Nat.le_of_ble_eq_true rfl)) rfl ?_
  refine g_if_eq (tgt := 15) dX12_takeNext_10 (by decide) (fun c5 => ?_) (fun c5 => ?_)
  · rw [if_pos c5] at hf
    refine g_aload_n (j := 0) dX12_takeNext_15 rfl rfl ?_
    refine g_iload_n (j := 1) dX12_takeNext_16 rfl rfl ?_
    obtain ⟨_, h8, hf⟩ := ob hf
    obtain ⟨σ6, v7, eσ6, hf⟩ := cb_el hf
    refine g_callV_i dX12_takeNext_17 (wX12_manyBelow _ eσ6) (okX12_manyBelow _ (by decide) (by decide)) (ckK_el h8) hc16 t_2727 t_2729 s_X12_manyBelow rfl (Nat.le_trans (cat_le _) (Nat.le_of_ble_eq_true rfl)) rfl ?_
    refine g_aload_n (j := 0) dX12_takeNext_20 rfl rfl ?_
    refine g_iload_n (j := 1) dX12_takeNext_21 rfl rfl ?_
    obtain ⟨_, h11, hf⟩ := ob hf
    obtain ⟨σ9, v10, eσ9, hf⟩ := cb_el hf
    refine g_callV_i dX12_takeNext_22 (wX12_manySame _ eσ9) (okX12_manySame _ (by decide) (by decide)) (ckK_el h11) hc16 t_2735 t_2737 s_X12_manySame rfl (Nat.le_trans (cat_le _) (Nat.le_of_ble_eq_true rfl)) rfl ?_
    refine g_iadd dX12_takeNext_25 ?_
    obtain ⟨v12, ev12, hf⟩ := nm_el hf
    refine g_topI ev12 ?_
    refine g_istore_n (i := 2) (L' := [(2, .int v12), (0, rv x0), (1, .int x1)]) dX12_takeNext_26 rfl (Nat.le_of_ble_eq_true rfl) rfl ?_
    refine g_aload_n (j := 1) dX12_takeNext_27 rfl rfl ?_
    refine g_iload_n (j := 0) dX12_takeNext_28 rfl rfl ?_
    refine g_aload_n (j := 1) dX12_takeNext_29 rfl rfl ?_
    obtain ⟨v13, ev13, hf⟩ := ob hf
    refine g_getF dX12_takeNext_30 ev13 t_2035 hin16 hc16 (by decide) rfl ?_
    refine g_iload_n (j := 2) dX12_takeNext_33 rfl rfl ?_
    obtain ⟨v14, ev14, hf⟩ := ob hf
    refine g_iald dX12_takeNext_34 ev14 ?_
    refine g_icmp_ge (tgt := 42) dX12_takeNext_35 (by decide) (fun c15 => ?_) (fun c15 => ?_)
    · rw [if_pos c15] at hf
      refine g_iconst (v := 0) dX12_takeNext_42 (by decide) ?_
      refine g_sub (L' := [(0, rv x0), (1, .int x1), (2, .int v12)]) [1, 2, 0] rfl ?_
      exact bX12_takeNext_43 hX1 hX2 hf
    · rw [if_neg c15] at hf
      refine g_iconst (v := 1) dX12_takeNext_38 (by decide) ?_
      refine g_goto (tgt := 43) dX12_takeNext_39 (by decide) ?_
      refine g_sub (L' := [(0, rv x0), (1, .int x1), (2, .int v12)]) [1, 2, 0] rfl ?_
      exact bX12_takeNext_43 hX1 hX2 hf
  · rw [if_neg c5] at hf
    refine g_iconst (v := 0) dX12_takeNext_13 (by decide) ?_
    exact g_iret dX12_takeNext_14 rfl rfl hX2 hX1 hf

theorem okX12_takeNext (M : Mt) (h1 : 6 + 1 ≤ M.2.2.2.2.1) (h2 : 8 + (4 + 11) + 197 ≤ M.2.2.2.2.2.1) : CallOk M MtX12_takeNext yX12_takeNext 1 := ⟨t_2754, h1, h2, ⟨by decide, by decide⟩, by decide +kernel, t_16⟩
abbrev MtX12_joinsAll : Mt := (cX12_joinsAll, 6, "ExactlySaidModel", (Option.some Jvm.ClassFile.FieldType.int), 4, 155, false)
set_option maxRecDepth 100000 in
set_option maxHeartbeats 4000000 in
theorem bX12_joinsAll_147 {X : Xt} {σf : St} {r : Int32} (hX1 : X.2.2.1 = σf) (hX2 : X.2.2.2 = .inl (some (.int r))) {k35 : St → Nat → Int32 → Int32 → Int32 → Int32 → Option (St × Int32)} (hk35 : ∀ (σ : St) (x0 : Nat) (x1 : Int32) (x2 : Int32) (x3 : Int32) (x4 : Int32), k35 σ x0 x1 x2 x3 x4 = some (σf, r) → G MtX12_joinsAll X σ 35 [(0, rv x0), (1, .int x1), (2, .int x2), (3, .int x3), (4, .int x4)] []) {σ : St} {x0 : Nat} {x1 : Int32} {x2 : Int32} {x3 : Int32} {x4 : Int32} (hf : fX12_joinsAll_147 k35 σ x0 x1 x2 x3 x4 = some (σf, r)) : G MtX12_joinsAll X σ 147 [(0, rv x0), (1, .int x1), (2, .int x2), (3, .int x3), (4, .int x4)] [] := by
  unfold fX12_joinsAll_147 at hf
  refine g_aload_n (j := 0) dX12_joinsAll_147 rfl rfl ?_
  refine g_bipush (v := 7) dX12_joinsAll_148 (by decide) ?_
  refine g_bipush (v := 14) dX12_joinsAll_150 (by decide) ?_
  refine g_iconst (v := 3) dX12_joinsAll_152 (by decide) ?_
  obtain ⟨_, h3, hf⟩ := ob hf
  obtain ⟨σ1, v2, eσ1, hf⟩ := cb_el hf
  refine g_callV_v dX12_joinsAll_153 (wX12_multiplies _ eσ1) (okX12_multiplies _ (by decide) (by decide)) (ckK_el h3) hc16 t_2310 t_2312 s_X12_multiplies rfl (Nat.le_trans (cat_le _) (Nat.le_of_ble_eq_true rfl)) rfl ?_
  refine g_aload_n (j := 0) dX12_joinsAll_156 rfl rfl ?_
  refine g_bipush (v := 14) dX12_joinsAll_157 (by decide) ?_
  refine g_bipush (v := 7) dX12_joinsAll_159 (by decide) ?_
  obtain ⟨_, h6, hf⟩ := ob hf
  obtain ⟨σ4, v5, eσ4, hf⟩ := cb_el hf
  refine g_callV_v dX12_joinsAll_161 (wX12_copies _ eσ4) (okX12_copies _ (by decide) (by decide)) (ckK_el h6) hc16 t_1927 t_1929 s_X12_copies rfl (Nat.le_trans (cat_le _) (Nat.le_of_ble_eq_true rfl)) rfl ?_
  obtain ⟨v7, ev7, hf⟩ := nm_el hf
  refine g_iinc (L' := [(4, .int v7), (0, rv x0), (1, .int x1), (2, .int x2), (3, .int x3)]) (j := 4) (v := v7) dX12_joinsAll_164 rfl (by rw [ev7]; rfl) (Nat.le_of_ble_eq_true rfl) rfl ?_
  refine g_goto (tgt := 35) dX12_joinsAll_167 (by decide) ?_
  refine g_sub (L' := [(0, rv x0), (1, .int x1), (2, .int x2), (3, .int x3), (4, .int v7)]) [1, 2, 3, 4, 0] rfl ?_
  exact hk35 _ _ _ _ _ _ hf

set_option maxRecDepth 100000 in
set_option maxHeartbeats 4000000 in
theorem bX12_joinsAll_35 {X : Xt} {σf : St} {r : Int32} (hX1 : X.2.2.1 = σf) (hX2 : X.2.2.2 = .inl (some (.int r))) : ∀ (n : Nat) (σ : St) (x0 : Nat) (x1 : Int32) (x2 : Int32) (x3 : Int32) (x4 : Int32), fX12_joinsAll_35 n σ x0 x1 x2 x3 x4 = some (σf, r) → G MtX12_joinsAll X σ 35 [(0, rv x0), (1, .int x1), (2, .int x2), (3, .int x3), (4, .int x4)] [] := by
  intro n
  induction n with
  | zero => intro σ x0 x1 x2 x3 x4 hf; cases hf
  | succ n ih =>
    intro σ x0 x1 x2 x3 x4 hf
    rw [fX12_joinsAll_35] at hf
    refine g_iload (j := 4) dX12_joinsAll_35 rfl ?_
    refine g_aload_n (j := 0) dX12_joinsAll_37 rfl rfl ?_
    obtain ⟨v1, ev1, hf⟩ := ob hf
    refine g_getF dX12_joinsAll_38 ev1 t_2035 hin16 hc16 (by decide) rfl ?_
    refine g_iload_n (j := 1) dX12_joinsAll_41 rfl rfl ?_
    obtain ⟨v2, ev2, hf⟩ := ob hf
    refine g_iald dX12_joinsAll_42 ev2 ?_
    refine g_icmp_ge (tgt := 170) dX12_joinsAll_43 (by decide) (fun c3 => ?_) (fun c3 => ?_)
    · rw [if_pos c3] at hf
      refine g_iload_n (j := 3) dX12_joinsAll_170 rfl rfl ?_
      exact g_iret dX12_joinsAll_171 rfl rfl hX2 hX1 hf
    · rw [if_neg c3] at hf
      refine g_aload_n (j := 0) dX12_joinsAll_46 rfl rfl ?_
      obtain ⟨v4, ev4, hf⟩ := ob hf
      refine g_getF dX12_joinsAll_47 ev4 t_2034 hin16 hc16 (by decide) rfl ?_
      refine g_bipush (v := 50) dX12_joinsAll_50 (by decide) ?_
      refine g_iload_n (j := 1) dX12_joinsAll_52 rfl rfl ?_
      refine g_imul dX12_joinsAll_53 ?_
      refine g_iload (j := 4) dX12_joinsAll_54 rfl ?_
      refine g_iadd dX12_joinsAll_56 ?_
      obtain ⟨v5, ev5, hf⟩ := ob hf
      refine g_iald dX12_joinsAll_57 ev5 ?_
      refine g_istore (i := 5) (L' := [(5, .int v5), (0, rv x0), (1, .int x1), (2, .int x2), (3, .int x3), (4, .int x4)]) dX12_joinsAll_58 (Nat.le_of_ble_eq_true rfl) rfl ?_
      refine g_aload_n (j := 1) dX12_joinsAll_60 rfl rfl ?_
      refine g_iconst (v := 2) dX12_joinsAll_61 (by decide) ?_
      refine g_iload (j := 0) dX12_joinsAll_62 rfl ?_
      refine g_iconst (v := 0) dX12_joinsAll_64 (by decide) ?_
      obtain ⟨_, h8, hf⟩ := ob hf
      obtain ⟨σ6, v7, eσ6, hf⟩ := cb_el hf
      refine g_callV_v dX12_joinsAll_65 (wX12_loads _ eσ6) (okX12_loads _ (by decide) (by decide)) (ckK_el h8) hc16 t_2439 t_2441 s_X12_loads rfl (Nat.le_trans (cat_le _) (Nat.le_of_ble_eq_true rfl)) rfl ?_
      refine g_aload_n (j := 1) dX12_joinsAll_68 rfl rfl ?_
      refine g_iconst (v := 3) dX12_joinsAll_69 (by decide) ?_
      refine g_iload (j := 0) dX12_joinsAll_70 rfl ?_
      refine g_iconst (v := 1) dX12_joinsAll_72 (by decide) ?_
      obtain ⟨_, h11, hf⟩ := ob hf
      obtain ⟨σ9, v10, eσ9, hf⟩ := cb_el hf
      refine g_callV_v dX12_joinsAll_73 (wX12_loads _ eσ9) (okX12_loads _ (by decide) (by decide)) (ckK_el h11) hc16 t_2439 t_2441 s_X12_loads rfl (Nat.le_trans (cat_le _) (Nat.le_of_ble_eq_true rfl)) rfl ?_
      refine g_iload_n (j := 3) dX12_joinsAll_76 rfl rfl ?_
      refine g_if_eq (tgt := 120) dX12_joinsAll_77 (by decide) (fun c12 => ?_) (fun c12 => ?_)
      · rw [if_pos c12] at hf
        refine g_aload_n (j := 1) dX12_joinsAll_120 rfl rfl ?_
        refine g_bipush (v := 6) dX12_joinsAll_121 (by decide) ?_
        refine g_bipush (v := 13) dX12_joinsAll_123 (by decide) ?_
        refine g_iconst (v := 2) dX12_joinsAll_125 (by decide) ?_
        obtain ⟨_, h15, hf⟩ := ob hf
        obtain ⟨σ13, v14, eσ13, hf⟩ := cb_el hf
        refine g_callV_v dX12_joinsAll_126 (wX12_multiplies _ eσ13) (okX12_multiplies _ (by decide) (by decide)) (ckK_el h15) hc16 t_2310 t_2312 s_X12_multiplies rfl (Nat.le_trans (cat_le _) (Nat.le_of_ble_eq_true rfl)) rfl ?_
        refine g_aload_n (j := 1) dX12_joinsAll_129 rfl rfl ?_
        refine g_bipush (v := 13) dX12_joinsAll_130 (by decide) ?_
        refine g_bipush (v := 6) dX12_joinsAll_132 (by decide) ?_
        obtain ⟨_, h18, hf⟩ := ob hf
        obtain ⟨σ16, v17, eσ16, hf⟩ := cb_el hf
        refine g_callV_v dX12_joinsAll_134 (wX12_copies _ eσ16) (okX12_copies _ (by decide) (by decide)) (ckK_el h18) hc16 t_1927 t_1929 s_X12_copies rfl (Nat.le_trans (cat_le _) (Nat.le_of_ble_eq_true rfl)) rfl ?_
        refine g_iload_n (j := 4) dX12_joinsAll_137 rfl rfl ?_
        refine g_aload_n (j := 1) dX12_joinsAll_138 rfl rfl ?_
        obtain ⟨v19, ev19, hf⟩ := ob hf
        refine g_getF dX12_joinsAll_139 ev19 t_1970 hin16 hc16 (by decide) rfl ?_
        refine g_iload (j := 0) dX12_joinsAll_142 rfl ?_
        obtain ⟨v20, ev20, hf⟩ := ob hf
        refine g_iald dX12_joinsAll_144 ev20 ?_
        refine g_imul dX12_joinsAll_145 ?_
        obtain ⟨v21, ev21, hf⟩ := nm_el hf
        refine g_topI ev21 ?_
        refine g_istore_n (i := 3) (L' := [(3, .int v21), (5, .int v5), (0, rv x0), (1, .int x1), (2, .int x2), (4, .int x4)]) dX12_joinsAll_146 rfl (Nat.le_of_ble_eq_true rfl) rfl ?_
        refine g_sub (L' := [(0, rv x0), (1, .int x1), (2, .int x2), (3, .int v21), (4, .int x4)]) [2, 3, 4, 0, 5] rfl ?_
        exact bX12_joinsAll_147 hX1 hX2 (fun σ x0 x1 x2 x3 x4 hf => ih σ x0 x1 x2 x3 x4 hf) hf
      · rw [if_neg c12] at hf
        refine g_aload_n (j := 1) dX12_joinsAll_80 rfl rfl ?_
        refine g_iconst (v := 4) dX12_joinsAll_81 (by decide) ?_
        refine g_bipush (v := 13) dX12_joinsAll_82 (by decide) ?_
        refine g_iconst (v := 3) dX12_joinsAll_84 (by decide) ?_
        obtain ⟨_, h24, hf⟩ := ob hf
        obtain ⟨σ22, v23, eσ22, hf⟩ := cb_el hf
        refine g_callV_v dX12_joinsAll_85 (wX12_multiplies _ eσ22) (okX12_multiplies _ (by decide) (by decide)) (ckK_el h24) hc16 t_2310 t_2312 s_X12_multiplies rfl (Nat.le_trans (cat_le _) (Nat.le_of_ble_eq_true rfl)) rfl ?_
        refine g_aload_n (j := 1) dX12_joinsAll_88 rfl rfl ?_
        refine g_iconst (v := 5) dX12_joinsAll_89 (by decide) ?_
        refine g_iconst (v := 2) dX12_joinsAll_90 (by decide) ?_
        refine g_bipush (v := 14) dX12_joinsAll_91 (by decide) ?_
        obtain ⟨_, h27, hf⟩ := ob hf
        obtain ⟨σ25, v26, eσ25, hf⟩ := cb_el hf
        refine g_callV_v dX12_joinsAll_93 (wX12_multiplies _ eσ25) (okX12_multiplies _ (by decide) (by decide)) (ckK_el h27) hc16 t_2310 t_2312 s_X12_multiplies rfl (Nat.le_trans (cat_le _) (Nat.le_of_ble_eq_true rfl)) rfl ?_
        refine g_aload_n (j := 1) dX12_joinsAll_96 rfl rfl ?_
        refine g_iload_n (j := 4) dX12_joinsAll_97 rfl rfl ?_
        refine g_aload_n (j := 1) dX12_joinsAll_98 rfl rfl ?_
        obtain ⟨v28, ev28, hf⟩ := ob hf
        refine g_getF dX12_joinsAll_99 ev28 t_1970 hin16 hc16 (by decide) rfl ?_
        refine g_iload (j := 0) dX12_joinsAll_102 rfl ?_
        obtain ⟨v29, ev29, hf⟩ := ob hf
        refine g_iald dX12_joinsAll_104 ev29 ?_
        obtain ⟨_, h32, hf⟩ := ob hf
        obtain ⟨σ30, v31, eσ30, hf⟩ := cb_el hf
        refine g_callV_i dX12_joinsAll_105 (wX12_joins _ eσ30) (okX12_joins _ (by decide) (by decide)) (ckK_el h32) hc16 t_2443 t_2445 s_X12_joins rfl (Nat.le_trans (cat_le _) (Nat.le_of_ble_eq_true rfl)) rfl ?_
        refine g_istore_n (i := 3) (L' := [(3, .int v31), (5, .int v5), (0, rv x0), (1, .int x1), (2, .int x2), (4, .int x4)]) dX12_joinsAll_108 rfl (Nat.le_of_ble_eq_true rfl) rfl ?_
        refine g_aload_n (j := 2) dX12_joinsAll_109 rfl rfl ?_
        refine g_bipush (v := 13) dX12_joinsAll_110 (by decide) ?_
        refine g_bipush (v := 6) dX12_joinsAll_112 (by decide) ?_
        obtain ⟨_, h35, hf⟩ := ob hf
        obtain ⟨σ33, v34, eσ33, hf⟩ := cb_el hf
        refine g_callV_v dX12_joinsAll_114 (wX12_copies _ eσ33) (okX12_copies _ (by decide) (by decide)) (ckK_el h35) hc16 t_1927 t_1929 s_X12_copies rfl (Nat.le_trans (cat_le _) (Nat.le_of_ble_eq_true rfl)) rfl ?_
        refine g_goto (tgt := 147) dX12_joinsAll_117 (by decide) ?_
        refine g_sub (L' := [(0, rv x0), (1, .int x1), (2, .int x2), (3, .int v31), (4, .int x4)]) [2, 3, 4, 0, 5] rfl ?_
        exact bX12_joinsAll_147 hX1 hX2 (fun σ x0 x1 x2 x3 x4 hf => ih σ x0 x1 x2 x3 x4 hf) hf

set_option maxRecDepth 100000 in
set_option maxHeartbeats 4000000 in
theorem bX12_joinsAll_31 {X : Xt} {σf : St} {r : Int32} (hX1 : X.2.2.1 = σf) (hX2 : X.2.2.2 = .inl (some (.int r))) {σ : St} {x0 : Nat} {x1 : Int32} {x2 : Int32} {y0 : Int32} (hf : fX12_joinsAll_31 σ x0 x1 x2 y0 = some (σf, r)) : G MtX12_joinsAll X σ 31 [(0, rv x0), (1, .int x1), (2, .int x2)] [.int y0] := by
  unfold fX12_joinsAll_31 at hf
  refine g_istore_n (i := 3) (L' := [(3, .int y0), (0, rv x0), (1, .int x1), (2, .int x2)]) dX12_joinsAll_31 rfl (Nat.le_of_ble_eq_true rfl) rfl ?_
  refine g_iconst (v := 0) dX12_joinsAll_32 (by decide) ?_
  refine g_istore (i := 4) (L' := [(4, .int 0), (3, .int y0), (0, rv x0), (1, .int x1), (2, .int x2)]) dX12_joinsAll_33 (Nat.le_of_ble_eq_true rfl) rfl ?_
  refine g_sub (L' := [(0, rv x0), (1, .int x1), (2, .int x2), (3, .int y0), (4, .int 0)]) [2, 3, 4, 1, 0] rfl ?_
  exact bX12_joinsAll_35 hX1 hX2 FU _ _ _ _ _ _ hf

set_option maxRecDepth 100000 in
set_option maxHeartbeats 4000000 in
theorem bX12_joinsAll_12 {X : Xt} {σf : St} {r : Int32} (hX1 : X.2.2.1 = σf) (hX2 : X.2.2.2 = .inl (some (.int r))) {σ : St} {x0 : Nat} {x1 : Int32} {x2 : Int32} {y0 : Nat} {y1 : Int32} {y2 : Int32} (hf : fX12_joinsAll_12 σ x0 x1 x2 y0 y1 y2 = some (σf, r)) : G MtX12_joinsAll X σ 12 [(0, rv x0), (1, .int x1), (2, .int x2)] [.int y2, .int y1, rv y0] := by
  unfold fX12_joinsAll_12 at hf
  obtain ⟨_, h3, hf⟩ := ob hf
  obtain ⟨σ1, v2, eσ1, hf⟩ := cb_el hf
  refine g_callV_v dX12_joinsAll_12 (wX12_puts _ eσ1) (okX12_puts _ (by decide) (by decide)) (ckK_el h3) hc16 t_1911 t_1913 s_X12_puts rfl (Nat.le_trans (cat_le _) (Nat.le_of_ble_eq_true rfl)) rfl ?_
  refine g_aload_n (j := 0) dX12_joinsAll_15 rfl rfl ?_
  refine g_bipush (v := 14) dX12_joinsAll_16 (by decide) ?_
  refine g_iconst (v := 1) dX12_joinsAll_18 (by decide) ?_
  obtain ⟨_, h6, hf⟩ := ob hf
  obtain ⟨σ4, v5, eσ4, hf⟩ := cb_el hf
  refine g_callV_v dX12_joinsAll_19 (wX12_puts _ eσ4) (okX12_puts _ (by decide) (by decide)) (ckK_el h6) hc16 t_1911 t_1913 s_X12_puts rfl (Nat.le_trans (cat_le _) (Nat.le_of_ble_eq_true rfl)) rfl ?_
  refine g_iload_n (j := 2) dX12_joinsAll_22 rfl rfl ?_
  refine g_if_eq (tgt := 30) dX12_joinsAll_23 (by decide) (fun c7 => ?_) (fun c7 => ?_)
  · rw [if_pos c7] at hf
    refine g_iconst (v := 1) dX12_joinsAll_30 (by decide) ?_
    exact bX12_joinsAll_31 hX1 hX2 hf
  · rw [if_neg c7] at hf
    refine g_iconst (v := 0) dX12_joinsAll_26 (by decide) ?_
    refine g_goto (tgt := 31) dX12_joinsAll_27 (by decide) ?_
    exact bX12_joinsAll_31 hX1 hX2 hf

set_option maxRecDepth 100000 in
set_option maxHeartbeats 4000000 in
theorem wX12_joinsAll (l : Launch) {σ σf : St} {x0 : Nat} {x1 : Int32} {x2 : Int32} {r : Int32} (hf : fX12_joinsAll σ x0 x1 x2 = some (σf, r)) : Con MtX12_joinsAll yX12_joinsAll l σ [rv x0, .int x1, .int x2] σf (some (.int r)) := by
  refine Con.of (by decide +kernel) rfl (fun h => absurd (show false = true from h) (by decide)) (by simp only [sl_n, sl_r, sl_i, sl_l]; exact Nat.le_of_ble_eq_true rfl) ?_
  rw [show lv_args 0 [rv x0, .int x1, .int x2] = [(0, rv x0), (1, .int x1), (2, .int x2)] by simp only [la_n, la_r, la_i, la_l] <;> rfl]
  have hX1 : ((l, σ, σf, .inl (some (.int r))) : Xt).2.2.1 = σf := rfl
  have hX2 : ((l, σ, σf, .inl (some (.int r))) : Xt).2.2.2 = .inl (some (.int r)) := rfl
  unfold fX12_joinsAll at hf
  refine g_aload_n (j := 0) dX12_joinsAll_0 rfl rfl ?_
  refine g_bipush (v := 13) dX12_joinsAll_1 (by decide) ?_
  refine g_iload_n (j := 2) dX12_joinsAll_3 rfl rfl ?_
  refine g_if_eq (tgt := 11) dX12_joinsAll_4 (by decide) (fun c1 => ?_) (fun c1 => ?_)
  · rw [if_pos c1] at hf
    refine g_iconst (v := 1) dX12_joinsAll_11 (by decide) ?_
    exact bX12_joinsAll_12 hX1 hX2 hf
  · rw [if_neg c1] at hf
    refine g_iconst (v := 0) dX12_joinsAll_7 (by decide) ?_
    refine g_goto (tgt := 12) dX12_joinsAll_8 (by decide) ?_
    exact bX12_joinsAll_12 hX1 hX2 hf

theorem okX12_joinsAll (M : Mt) (h1 : 4 + 1 ≤ M.2.2.2.2.1) (h2 : 8 + (6 + 11) + 155 ≤ M.2.2.2.2.2.1) : CallOk M MtX12_joinsAll yX12_joinsAll 2 := ⟨t_2762, h1, h2, ⟨by decide, by decide⟩, by decide +kernel, t_16⟩
abbrev MtX12_takeAll : Mt := (cX12_takeAll, 5, "ExactlySaidModel", (Option.some Jvm.ClassFile.FieldType.int), 8, 255, false)
set_option maxRecDepth 100000 in
set_option maxHeartbeats 4000000 in
theorem bX12_takeAll_124 {X : Xt} {σf : St} {r : Int32} (hX1 : X.2.2.1 = σf) (hX2 : X.2.2.2 = .inl (some (.int r))) {σ : St} {x0 : Nat} {x4 : Int32} {y0 : Nat} {y1 : Int32} (hf : fX12_takeAll_124 σ x0 x4 y0 y1 = some (σf, r)) : G MtX12_takeAll X σ 124 [(0, rv x0), (4, .int x4)] [.int y1, rv y0] := by
  unfold fX12_takeAll_124 at hf
  refine g_iconst (v := 3) dX12_takeAll_124 (by decide) ?_
  obtain ⟨_, h3, hf⟩ := ob hf
  obtain ⟨σ1, v2, eσ1, hf⟩ := cb_el hf
  refine g_callV_i dX12_takeAll_125 (wX12_fails _ eσ1) (okX12_fails _ (by decide) (by decide)) (ckK_el h3) hc16 t_2225 t_2227 s_X12_fails rfl (Nat.le_trans (cat_le _) (Nat.le_of_ble_eq_true rfl)) rfl ?_
  refine g_if_eq (tgt := 135) dX12_takeAll_128 (by decide) (fun c4 => ?_) (fun c4 => ?_)
  · rw [if_pos c4] at hf
    refine g_aload_n (j := 0) dX12_takeAll_135 rfl rfl ?_
    refine g_iload (j := 1) dX12_takeAll_136 rfl ?_
    obtain ⟨_, h7, hf⟩ := ob hf
    obtain ⟨σ5, v6, eσ5, hf⟩ := cb_el hf
    refine g_callV_i dX12_takeAll_138 (wX12_becomes _ eσ5) (okX12_becomes _ (by decide) (by decide)) (ckK_el h7) hc16 t_2615 t_2617 s_X12_becomes rfl (Nat.le_trans (cat_le _) (Nat.le_of_ble_eq_true rfl)) rfl ?_
    exact g_iret dX12_takeAll_141 rfl rfl hX2 hX1 hf
  · rw [if_neg c4] at hf
    refine g_iconst (v := 0) dX12_takeAll_131 (by decide) ?_
    refine g_goto (tgt := 141) dX12_takeAll_132 (by decide) ?_
    exact g_iret dX12_takeAll_141 rfl rfl hX2 hX1 hf

set_option maxRecDepth 100000 in
set_option maxHeartbeats 4000000 in
theorem bX12_takeAll_89 {X : Xt} {σf : St} {r : Int32} (hX1 : X.2.2.1 = σf) (hX2 : X.2.2.2 = .inl (some (.int r))) {σ : St} {x0 : Nat} {x3 : Int32} (hf : fX12_takeAll_89 σ x0 x3 = some (σf, r)) : G MtX12_takeAll X σ 89 [(0, rv x0), (3, .int x3)] [] := by
  unfold fX12_takeAll_89 at hf
  refine g_aload_n (j := 0) dX12_takeAll_89 rfl rfl ?_
  refine g_bipush (v := 6) dX12_takeAll_90 (by decide) ?_
  refine g_bipush (v := 13) dX12_takeAll_92 (by decide) ?_
  obtain ⟨_, h3, hf⟩ := ob hf
  obtain ⟨σ1, v2, eσ1, hf⟩ := cb_el hf
  refine g_callV_v dX12_takeAll_94 (wX12_copies _ eσ1) (okX12_copies _ (by decide) (by decide)) (ckK_el h3) hc16 t_1927 t_1929 s_X12_copies rfl (Nat.le_trans (cat_le _) (Nat.le_of_ble_eq_true rfl)) rfl ?_
  refine g_aload_n (j := 0) dX12_takeAll_97 rfl rfl ?_
  refine g_bipush (v := 7) dX12_takeAll_98 (by decide) ?_
  refine g_bipush (v := 14) dX12_takeAll_100 (by decide) ?_
  obtain ⟨_, h6, hf⟩ := ob hf
  obtain ⟨σ4, v5, eσ4, hf⟩ := cb_el hf
  refine g_callV_v dX12_takeAll_102 (wX12_copies _ eσ4) (okX12_copies _ (by decide) (by decide)) (ckK_el h6) hc16 t_1927 t_1929 s_X12_copies rfl (Nat.le_trans (cat_le _) (Nat.le_of_ble_eq_true rfl)) rfl ?_
  refine g_aload_n (j := 0) dX12_takeAll_105 rfl rfl ?_
  refine g_iload_n (j := 1) dX12_takeAll_106 rfl rfl ?_
  obtain ⟨_, h9, hf⟩ := ob hf
  obtain ⟨σ7, v8, eσ7, hf⟩ := cb_el hf
  refine g_callV_i dX12_takeAll_107 (wX12_keepsMade _ eσ7) (okX12_keepsMade _ (by decide) (by decide)) (ckK_el h9) hc16 t_2314 t_2316 s_X12_keepsMade rfl (Nat.le_trans (cat_le _) (Nat.le_of_ble_eq_true rfl)) rfl ?_
  refine g_istore (i := 4) (L' := [(4, .int v8), (0, rv x0), (3, .int x3)]) dX12_takeAll_110 (Nat.le_of_ble_eq_true rfl) rfl ?_
  refine g_aload_n (j := 1) dX12_takeAll_112 rfl rfl ?_
  refine g_iload (j := 0) dX12_takeAll_113 rfl ?_
  refine g_iconst (v := (-1)) dX12_takeAll_115 (by decide) ?_
  refine g_icmp_eq (tgt := 123) dX12_takeAll_116 (by decide) (fun c10 => ?_) (fun c10 => ?_)
  · rw [if_pos c10] at hf
    refine g_iconst (v := 0) dX12_takeAll_123 (by decide) ?_
    refine g_sub (L' := [(0, rv x0), (4, .int v8)]) [1, 0] rfl ?_
    exact bX12_takeAll_124 hX1 hX2 hf
  · rw [if_neg c10] at hf
    refine g_iconst (v := 1) dX12_takeAll_119 (by decide) ?_
    refine g_goto (tgt := 124) dX12_takeAll_120 (by decide) ?_
    refine g_sub (L' := [(0, rv x0), (4, .int v8)]) [1, 0] rfl ?_
    exact bX12_takeAll_124 hX1 hX2 hf

set_option maxRecDepth 100000 in
set_option maxHeartbeats 4000000 in
theorem bX12_takeAll_68 {X : Xt} {σf : St} {r : Int32} (hX1 : X.2.2.1 = σf) (hX2 : X.2.2.2 = .inl (some (.int r))) {σ : St} {x0 : Nat} {x1 : Int32} {x2 : Int32} {y0 : Nat} {y1 : Int32} {y2 : Int32} (hf : fX12_takeAll_68 σ x0 x1 x2 y0 y1 y2 = some (σf, r)) : G MtX12_takeAll X σ 68 [(0, rv x0), (1, .int x1), (2, .int x2)] [.int y2, .int y1, rv y0] := by
  unfold fX12_takeAll_68 at hf
  obtain ⟨_, h3, hf⟩ := ob hf
  obtain ⟨σ1, v2, eσ1, hf⟩ := cb_el hf
  refine g_callV_i dX12_takeAll_68 (wX12_joinsAll _ eσ1) (okX12_joinsAll _ (by decide) (by decide)) (ckK_el h3) hc16 t_2759 t_2761 s_X12_joinsAll rfl (Nat.le_trans (cat_le _) (Nat.le_of_ble_eq_true rfl)) rfl ?_
  refine g_istore_n (i := 3) (L' := [(3, .int v2), (0, rv x0), (1, .int x1), (2, .int x2)]) dX12_takeAll_71 rfl (Nat.le_of_ble_eq_true rfl) rfl ?_
  refine g_iload_n (j := 3) dX12_takeAll_72 rfl rfl ?_
  refine g_iconst (v := 2) dX12_takeAll_73 (by decide) ?_
  refine g_icmp_ne (tgt := 89) dX12_takeAll_74 (by decide) (fun c4 => ?_) (fun c4 => ?_)
  · rw [if_neg c4] at hf
    refine g_sub (L' := [(0, rv x0), (3, .int v2)]) [1, 0] rfl ?_
    exact bX12_takeAll_89 hX1 hX2 hf
  · rw [if_pos c4] at hf
    refine g_aload_n (j := 1) dX12_takeAll_77 rfl rfl ?_
    refine g_bipush (v := 14) dX12_takeAll_78 (by decide) ?_
    refine g_aload_n (j := 1) dX12_takeAll_80 rfl rfl ?_
    obtain ⟨v5, ev5, hf⟩ := ob hf
    refine g_getF dX12_takeAll_81 ev5 t_2035 hin16 hc16 (by decide) rfl ?_
    refine g_iload_n (j := 2) dX12_takeAll_84 rfl rfl ?_
    obtain ⟨v6, ev6, hf⟩ := ob hf
    refine g_iald dX12_takeAll_85 ev6 ?_
    obtain ⟨_, h9, hf⟩ := ob hf
    obtain ⟨σ7, v8, eσ7, hf⟩ := cb_el hf
    refine g_callV_v dX12_takeAll_86 (wX12_times _ eσ7) (okX12_times _ (by decide) (by decide)) (ckK_el h9) hc16 t_1947 t_1949 s_X12_times rfl (Nat.le_trans (cat_le _) (Nat.le_of_ble_eq_true rfl)) rfl ?_
    refine g_sub (L' := [(0, rv x0), (3, .int v2)]) [1, 0] rfl ?_
    exact bX12_takeAll_89 hX1 hX2 hf

set_option maxRecDepth 100000 in
set_option maxHeartbeats 4000000 in
theorem bX12_takeAll_47 {X : Xt} {σf : St} {r : Int32} (hX1 : X.2.2.1 = σf) (hX2 : X.2.2.2 = .inl (some (.int r))) {σ : St} {x0 : Nat} {x1 : Int32} {x2 : Int32} {y0 : Nat} {y1 : Int32} (hf : fX12_takeAll_47 σ x0 x1 x2 y0 y1 = some (σf, r)) : G MtX12_takeAll X σ 47 [(0, rv x0), (1, .int x1), (2, .int x2)] [.int y1, rv y0] := by
  unfold fX12_takeAll_47 at hf
  refine g_iconst (v := 2) dX12_takeAll_47 (by decide) ?_
  obtain ⟨_, h3, hf⟩ := ob hf
  obtain ⟨σ1, v2, eσ1, hf⟩ := cb_el hf
  refine g_callV_i dX12_takeAll_48 (wX12_fails _ eσ1) (okX12_fails _ (by decide) (by decide)) (ckK_el h3) hc16 t_2225 t_2227 s_X12_fails rfl (Nat.le_trans (cat_le _) (Nat.le_of_ble_eq_true rfl)) rfl ?_
  refine g_if_eq (tgt := 56) dX12_takeAll_51 (by decide) (fun c4 => ?_) (fun c4 => ?_)
  · rw [if_pos c4] at hf
    refine g_aload_n (j := 0) dX12_takeAll_56 rfl rfl ?_
    refine g_iload_n (j := 1) dX12_takeAll_57 rfl rfl ?_
    refine g_iload_n (j := 2) dX12_takeAll_58 rfl rfl ?_
    refine g_iconst (v := 1) dX12_takeAll_59 (by decide) ?_
    refine g_icmp_eq (tgt := 67) dX12_takeAll_60 (by decide) (fun c5 => ?_) (fun c5 => ?_)
    · rw [if_pos c5] at hf
      refine g_iconst (v := 0) dX12_takeAll_67 (by decide) ?_
      exact bX12_takeAll_68 hX1 hX2 hf
    · rw [if_neg c5] at hf
      refine g_iconst (v := 1) dX12_takeAll_63 (by decide) ?_
      refine g_goto (tgt := 68) dX12_takeAll_64 (by decide) ?_
      exact bX12_takeAll_68 hX1 hX2 hf
  · rw [if_neg c4] at hf
    refine g_iconst (v := 0) dX12_takeAll_54 (by decide) ?_
    exact g_iret dX12_takeAll_55 rfl rfl hX2 hX1 hf

set_option maxRecDepth 100000 in
set_option maxHeartbeats 4000000 in
theorem bX12_takeAll_42 {X : Xt} {σf : St} {r : Int32} (hX1 : X.2.2.1 = σf) (hX2 : X.2.2.2 = .inl (some (.int r))) {σ : St} {x0 : Nat} {x1 : Int32} {x2 : Int32} {y0 : Nat} (hf : fX12_takeAll_42 σ x0 x1 x2 y0 = some (σf, r)) : G MtX12_takeAll X σ 42 [(0, rv x0), (1, .int x1), (2, .int x2)] [rv y0] := by
  unfold fX12_takeAll_42 at hf
  refine g_iconst (v := 1) dX12_takeAll_42 (by decide) ?_
  refine g_goto (tgt := 47) dX12_takeAll_43 (by decide) ?_
  exact bX12_takeAll_47 hX1 hX2 hf

set_option maxRecDepth 100000 in
set_option maxHeartbeats 4000000 in
theorem wX12_takeAll (l : Launch) {σ σf : St} {x0 : Nat} {x1 : Int32} {x2 : Int32} {r : Int32} (hf : fX12_takeAll σ x0 x1 x2 = some (σf, r)) : Con MtX12_takeAll yX12_takeAll l σ [rv x0, .int x1, .int x2] σf (some (.int r)) := by
  refine Con.of (by decide +kernel) rfl (fun h => absurd (show false = true from h) (by decide)) (by simp only [sl_n, sl_r, sl_i, sl_l]; exact Nat.le_of_ble_eq_true rfl) ?_
  rw [show lv_args 0 [rv x0, .int x1, .int x2] = [(0, rv x0), (1, .int x1), (2, .int x2)] by simp only [la_n, la_r, la_i, la_l] <;> rfl]
  have hX1 : ((l, σ, σf, .inl (some (.int r))) : Xt).2.2.1 = σf := rfl
  have hX2 : ((l, σ, σf, .inl (some (.int r))) : Xt).2.2.2 = .inl (some (.int r)) := rfl
  unfold fX12_takeAll at hf
  refine g_aload_n (j := 0) dX12_takeAll_0 rfl rfl ?_
  refine g_iconst (v := 0) dX12_takeAll_1 (by decide) ?_
  obtain ⟨σ1, eσ1, hf⟩ := ob hf
  refine g_putI dX12_takeAll_2 eσ1 (Or.inl t_1967) hin16 hc16 (by decide) hty16 hnm16 (Or.inl rfl) rfl rfl rfl ?_
  refine g_aload_n (j := 0) dX12_takeAll_5 rfl rfl ?_
  refine g_iload_n (j := 1) dX12_takeAll_6 rfl rfl ?_
  obtain ⟨_, h4, hf⟩ := ob hf
  obtain ⟨σ2, v3, eσ2, hf⟩ := cb_el hf
  refine g_callV_i dX12_takeAll_7 (wX12_noRow _ eσ2) (okX12_noRow _ (by decide) (by decide)) (ckK_el h4) hc16 t_2723 t_2725 s_X12_noRow rfl (Nat.le_trans (cat_le _) (Nat.le_of_ble_eq_true rfl)) rfl ?_
  refine g_if_ne (tgt := 54) dX12_takeAll_10 (by decide) (fun c5 => ?_) (fun c5 => ?_)
  · rw [if_neg c5] at hf
    refine g_iconst (v := 0) dX12_takeAll_54 (by decide) ?_
    exact g_iret dX12_takeAll_55 rfl rfl hX2 hX1 hf
  · rw [if_pos c5] at hf
    refine g_aload_n (j := 0) dX12_takeAll_13 rfl rfl ?_
    refine g_iload_n (j := 2) dX12_takeAll_14 rfl rfl ?_
    refine g_iconst (v := 0) dX12_takeAll_15 (by decide) ?_
    refine g_iconst (v := 2) dX12_takeAll_16 (by decide) ?_
    obtain ⟨σ6, v7, eσ6, hf⟩ := cb_el hf
    refine g_callS_i dX12_takeAll_17 (wX12_in _ eσ6) (okX12_in _ (by decide) (by decide)) t_2257 t_2258 rfl (Nat.le_trans (cat_le _) (Nat.le_of_ble_eq_true rfl)) rfl ?_
    refine g_iconst (v := 1) dX12_takeAll_20 (by decide) ?_
    obtain ⟨_, h10, hf⟩ := ob hf
    obtain ⟨σ8, v9, eσ8, hf⟩ := cb_el hf
    refine g_callV_i dX12_takeAll_21 (wX12_fails _ eσ8) (okX12_fails _ (by decide) (by decide)) (ckK_el h10) hc16 t_2225 t_2227 s_X12_fails rfl (Nat.le_trans (cat_le _) (Nat.le_of_ble_eq_true rfl)) rfl ?_
    refine g_if_ne (tgt := 54) dX12_takeAll_24 (by decide) (fun c11 => ?_) (fun c11 => ?_)
    · rw [if_neg c11] at hf
      refine g_iconst (v := 0) dX12_takeAll_54 (by decide) ?_
      exact g_iret dX12_takeAll_55 rfl rfl hX2 hX1 hf
    · rw [if_pos c11] at hf
      refine g_aload_n (j := 0) dX12_takeAll_27 rfl rfl ?_
      refine g_iload_n (j := 2) dX12_takeAll_28 rfl rfl ?_
      refine g_iconst (v := 2) dX12_takeAll_29 (by decide) ?_
      refine g_icmp_lt (tgt := 42) dX12_takeAll_30 (by decide) (fun c12 => ?_) (fun c12 => ?_)
      · rw [if_pos c12] at hf
        exact bX12_takeAll_42 hX1 hX2 hf
      · rw [if_neg c12] at hf
        refine g_aload_n (j := 0) dX12_takeAll_33 rfl rfl ?_
        obtain ⟨v13, ev13, hf⟩ := ob hf
        refine g_getF dX12_takeAll_34 ev13 t_2035 hin16 hc16 (by decide) rfl ?_
        refine g_iload_n (j := 1) dX12_takeAll_37 rfl rfl ?_
        obtain ⟨v14, ev14, hf⟩ := ob hf
        refine g_iald dX12_takeAll_38 ev14 ?_
        refine g_if_le (tgt := 46) dX12_takeAll_39 (by decide) (fun c15 => ?_) (fun c15 => ?_)
        · rw [if_pos c15] at hf
          refine g_iconst (v := 0) dX12_takeAll_46 (by decide) ?_
          exact bX12_takeAll_47 hX1 hX2 hf
        · rw [if_neg c15] at hf
          exact bX12_takeAll_42 hX1 hX2 hf

theorem okX12_takeAll (M : Mt) (h1 : 8 + 1 ≤ M.2.2.2.2.1) (h2 : 8 + (5 + 11) + 255 ≤ M.2.2.2.2.2.1) : CallOk M MtX12_takeAll yX12_takeAll 2 := ⟨t_2758, h1, h2, ⟨by decide, by decide⟩, by decide +kernel, t_16⟩
abbrev MtX12_undo : Mt := (cX12_undo, 1, "ExactlySaidModel", (Option.some Jvm.ClassFile.FieldType.int), 2, 109, false)
set_option maxRecDepth 100000 in
set_option maxHeartbeats 4000000 in
theorem wX12_undo (l : Launch) {σ σf : St} {x0 : Nat} {r : Int32} (hf : fX12_undo σ x0 = some (σf, r)) : Con MtX12_undo yX12_undo l σ [rv x0] σf (some (.int r)) := by
  refine Con.of (by decide +kernel) rfl (fun h => absurd (show false = true from h) (by decide)) (by simp only [sl_n, sl_r, sl_i, sl_l]; exact Nat.le_of_ble_eq_true rfl) ?_
  rw [show lv_args 0 [rv x0] = [(0, rv x0)] by simp only [la_n, la_r, la_i, la_l] <;> rfl]
  have hX1 : ((l, σ, σf, .inl (some (.int r))) : Xt).2.2.1 = σf := rfl
  have hX2 : ((l, σ, σf, .inl (some (.int r))) : Xt).2.2.2 = .inl (some (.int r)) := rfl
  unfold fX12_undo at hf
  refine g_aload_n (j := 0) dX12_undo_0 rfl rfl ?_
  refine g_iconst (v := 0) dX12_undo_1 (by decide) ?_
  obtain ⟨σ1, eσ1, hf⟩ := ob hf
  refine g_putI dX12_undo_2 eσ1 (Or.inl t_1967) hin16 hc16 (by decide) hty16 hnm16 (Or.inl rfl) rfl rfl rfl ?_
  refine g_aload_n (j := 0) dX12_undo_5 rfl rfl ?_
  obtain ⟨v2, ev2, hf⟩ := ob hf
  refine g_getI dX12_undo_6 ev2 t_2039 hin16 hc16 (by decide) rfl ?_
  refine g_if_ne (tgt := 14) dX12_undo_9 (by decide) (fun c3 => ?_) (fun c3 => ?_)
  · rw [if_neg c3] at hf
    refine g_aload_n (j := 0) dX12_undo_14 rfl rfl ?_
    refine g_aload_n (j := 0) dX12_undo_15 rfl rfl ?_
    obtain ⟨v4, ev4, hf⟩ := ob hf
    refine g_getF dX12_undo_16 ev4 t_2038 hin16 hc16 (by decide) rfl ?_
    refine g_sipush (v := 252) dX12_undo_19 (by decide) ?_
    refine g_aload_n (j := 0) dX12_undo_22 rfl rfl ?_
    obtain ⟨v5, ev5, hf⟩ := ob hf
    refine g_getI dX12_undo_23 ev5 t_2040 hin16 hc16 (by decide) rfl ?_
    refine g_imul dX12_undo_26 ?_
    obtain ⟨_, h8, hf⟩ := ob hf
    obtain ⟨σ6, v7, eσ6, hf⟩ := cb_el hf
    refine g_callV_v dX12_undo_27 (wX12_writesState _ eσ6) (okX12_writesState _ (by decide) (by decide)) (ckK_el h8) hc16 t_2495 t_2497 s_X12_writesState rfl (Nat.le_trans (cat_le _) (Nat.le_of_ble_eq_true rfl)) rfl ?_
    refine g_aload_n (j := 0) dX12_undo_30 rfl rfl ?_
    refine g_dup dX12_undo_31 (rv_cat _) ?_
    obtain ⟨v9, ev9, hf⟩ := ob hf
    refine g_getI dX12_undo_32 ev9 t_2040 hin16 hc16 (by decide) rfl ?_
    refine g_iconst (v := 1) dX12_undo_35 (by decide) ?_
    refine g_iadd dX12_undo_36 ?_
    obtain ⟨σ10, eσ10, hf⟩ := ob hf
    refine g_putI dX12_undo_37 eσ10 (Or.inl t_2040) hin16 hc16 (by decide) hty16 hnm16 (Or.inl rfl) rfl rfl rfl ?_
    refine g_aload_n (j := 0) dX12_undo_40 rfl rfl ?_
    refine g_dup dX12_undo_41 (rv_cat _) ?_
    obtain ⟨v11, ev11, hf⟩ := ob hf
    refine g_getI dX12_undo_42 ev11 t_2039 hin16 hc16 (by decide) rfl ?_
    refine g_iconst (v := 1) dX12_undo_45 (by decide) ?_
    refine g_isub dX12_undo_46 ?_
    obtain ⟨σ12, eσ12, hf⟩ := ob hf
    refine g_putI dX12_undo_47 eσ12 (Or.inl t_2039) hin16 hc16 (by decide) hty16 hnm16 (Or.inl rfl) rfl rfl rfl ?_
    refine g_aload_n (j := 0) dX12_undo_50 rfl rfl ?_
    refine g_aload_n (j := 0) dX12_undo_51 rfl rfl ?_
    obtain ⟨v13, ev13, hf⟩ := ob hf
    refine g_getF dX12_undo_52 ev13 t_2037 hin16 hc16 (by decide) rfl ?_
    refine g_sipush (v := 252) dX12_undo_55 (by decide) ?_
    refine g_aload_n (j := 0) dX12_undo_58 rfl rfl ?_
    obtain ⟨v14, ev14, hf⟩ := ob hf
    refine g_getI dX12_undo_59 ev14 t_2039 hin16 hc16 (by decide) rfl ?_
    refine g_imul dX12_undo_62 ?_
    obtain ⟨_, h17, hf⟩ := ob hf
    obtain ⟨σ15, v16, eσ15, hf⟩ := cb_el hf
    refine g_callV_v dX12_undo_63 (wX12_readsState _ eσ15) (okX12_readsState _ (by decide) (by decide)) (ckK_el h17) hc16 t_2515 t_2517 s_X12_readsState rfl (Nat.le_trans (cat_le _) (Nat.le_of_ble_eq_true rfl)) rfl ?_
    refine g_aload_n (j := 0) dX12_undo_66 rfl rfl ?_
    obtain ⟨v18, ev18, hf⟩ := ob hf
    refine g_getI dX12_undo_67 ev18 t_2039 hin16 hc16 (by decide) rfl ?_
    exact g_iret dX12_undo_70 rfl rfl hX2 hX1 hf
  · rw [if_pos c3] at hf
    refine g_iconst (v := (-1)) dX12_undo_12 (by decide) ?_
    exact g_iret dX12_undo_13 rfl rfl hX2 hX1 hf

theorem okX12_undo (M : Mt) (h1 : 2 + 1 ≤ M.2.2.2.2.1) (h2 : 8 + (1 + 11) + 109 ≤ M.2.2.2.2.2.1) : CallOk M MtX12_undo yX12_undo 0 := ⟨t_2546, h1, h2, ⟨by decide, by decide⟩, by decide +kernel, t_16⟩
