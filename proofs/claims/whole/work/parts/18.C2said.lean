abbrev MtX11_isRefusedAtWork : Mt := (cX11_isRefusedAtWork, 2, "ExactlySaid", (Option.some Jvm.ClassFile.FieldType.boolean), 8, 304, false)
set_option maxRecDepth 100000 in
set_option maxHeartbeats 4000000 in
theorem bX11_isRefusedAtWork_67 {X : Xt} {σf : St} {r : Int32} (hX1 : X.2.2.1 = σf) (hX2 : X.2.2.2 = .inl (some (.int r))) {σ : St} {x1 : Int32} (hf : fX11_isRefusedAtWork_67 σ x1 = some (σf, r)) : G MtX11_isRefusedAtWork X σ 67 [(1, .int x1)] [] := by
  unfold fX11_isRefusedAtWork_67 at hf
  refine g_iload_n (j := 0) dX11_isRefusedAtWork_67 rfl rfl ?_
  refine g_if_eq (tgt := 75) dX11_isRefusedAtWork_68 (by decide) (fun c1 => ?_) (fun c1 => ?_)
  · rw [if_pos c1] at hf
    refine g_iconst (v := 0) dX11_isRefusedAtWork_75 (by decide) ?_
    exact g_iret dX11_isRefusedAtWork_76 rfl (by decide) hX2 hX1 hf
  · rw [if_neg c1] at hf
    refine g_iconst (v := 1) dX11_isRefusedAtWork_71 (by decide) ?_
    refine g_goto (tgt := 76) dX11_isRefusedAtWork_72 (by decide) ?_
    exact g_iret dX11_isRefusedAtWork_76 rfl (by decide) hX2 hX1 hf

set_option maxRecDepth 100000 in
set_option maxHeartbeats 4000000 in
theorem wX11_isRefusedAtWork (l : Launch) {σ σf : St} {x0 : Nat} {r : Int32} (hf : fX11_isRefusedAtWork σ x0 = some (σf, r)) : Con MtX11_isRefusedAtWork yX11_isRefusedAtWork l σ [rv x0] σf (some (.int r)) := by
  refine Con.of (by decide +kernel) rfl (fun h => absurd (show false = true from h) (by decide)) (by simp only [sl_n, sl_r, sl_i, sl_l]; exact Nat.le_of_ble_eq_true rfl) ?_
  rw [show lv_args 0 [rv x0] = [(0, rv x0)] by simp only [la_n, la_r, la_i, la_l] <;> rfl]
  have hX1 : ((l, σ, σf, .inl (some (.int r))) : Xt).2.2.1 = σf := rfl
  have hX2 : ((l, σ, σf, .inl (some (.int r))) : Xt).2.2.2 = .inl (some (.int r)) := rfl
  unfold fX11_isRefusedAtWork at hf
  refine g_aload_n (j := 0) dX11_isRefusedAtWork_0 rfl rfl ?_
  obtain ⟨v1, ev1, hf⟩ := ob hf
  refine g_getF dX11_isRefusedAtWork_1 ev1 t_392 hin15 hc15 (by decide) rfl ?_
  obtain ⟨v2, ev2, hf⟩ := ob hf
  refine g_getIN dX11_isRefusedAtWork_4 ev2 t_231 hin8 hc8 (by decide) rfl ?_
  refine g_iconst (v := 2) dX11_isRefusedAtWork_7 (by decide) ?_
  refine g_icmp_ne (tgt := 13) dX11_isRefusedAtWork_8 (by decide) (fun c3 => ?_) (fun c3 => ?_)
  · rw [if_neg c3] at hf
    refine g_aload_n (j := 0) dX11_isRefusedAtWork_13 rfl rfl ?_
    obtain ⟨v4, ev4, hf⟩ := ob hf
    refine g_getF dX11_isRefusedAtWork_14 ev4 t_387 hin15 hc15 (by decide) rfl ?_
    refine g_iconst (v := 0) dX11_isRefusedAtWork_17 (by decide) ?_
    obtain ⟨σ5, eσ5, hf⟩ := ob hf
    refine g_putI dX11_isRefusedAtWork_18 eσ5 (Or.inr ⟨_, t_139⟩) hin12 hc12 (by decide) hty12 hnm12 (Or.inl rfl) rfl rfl rfl ?_
    refine g_aload_n (j := 0) dX11_isRefusedAtWork_21 rfl rfl ?_
    obtain ⟨v6, ev6, hf⟩ := ob hf
    refine g_getF dX11_isRefusedAtWork_22 ev6 t_393 hin15 hc15 (by decide) rfl ?_
    refine g_aload_n (j := 0) dX11_isRefusedAtWork_25 rfl rfl ?_
    obtain ⟨v7, ev7, hf⟩ := ob hf
    refine g_getF dX11_isRefusedAtWork_26 ev7 t_392 hin15 hc15 (by decide) rfl ?_
    obtain ⟨v8, ev8, hf⟩ := ob hf
    refine g_getFN dX11_isRefusedAtWork_29 ev8 t_241 hin8 hc8 (by decide) rfl ?_
    refine g_aload_n (j := 0) dX11_isRefusedAtWork_32 rfl rfl ?_
    obtain ⟨_, h11, hf⟩ := ob hf
    obtain ⟨σ9, a10, eσ9, hf⟩ := cb_el hf
    refine g_callV_q dX11_isRefusedAtWork_33 (wX11_present _ eσ9) (okX11_present _ (by decide) (by decide)) (ckK_el h11) hc15 t_959 t_961 s_X11_present rfl (Nat.le_trans (cat_le _) (Nat.le_of_ble_eq_true rfl)) rfl ?_
    obtain ⟨v12, ev12, hf⟩ := ob hf
    refine g_getFN dX11_isRefusedAtWork_36 ev12 t_367 hin11 hc11 (by decide) rfl ?_
    refine g_aload_n (j := 0) dX11_isRefusedAtWork_39 rfl rfl ?_
    obtain ⟨v13, ev13, hf⟩ := ob hf
    refine g_getF dX11_isRefusedAtWork_40 ev13 t_387 hin15 hc15 (by decide) rfl ?_
    refine g_aload_n (j := 0) dX11_isRefusedAtWork_43 rfl rfl ?_
    obtain ⟨v14, ev14, hf⟩ := ob hf
    refine g_getF dX11_isRefusedAtWork_44 ev14 t_391 hin15 hc15 (by decide) rfl ?_
    obtain ⟨_, h17, hf⟩ := ob hf
    obtain ⟨σ15, v16, eσ15, hf⟩ := cb_el hf
    refine g_callVN_i dX11_isRefusedAtWork_47 (wX2_work _ eσ15) (okX2_work _ (by decide) (by decide)) (ckK_el h17) hc6 t_1103 t_1105 s_X2_work rfl (Nat.le_trans (cat_le _) (Nat.le_of_ble_eq_true rfl)) rfl ?_
    refine g_istore_n (i := 1) (L' := [(1, .int v16), (0, rv x0)]) dX11_isRefusedAtWork_50 rfl (Nat.le_of_ble_eq_true rfl) (by simp [rv_cat]) ?_
    refine g_iload_n (j := 0) dX11_isRefusedAtWork_51 rfl rfl ?_
    refine g_if_eq (tgt := 67) dX11_isRefusedAtWork_52 (by decide) (fun c18 => ?_) (fun c18 => ?_)
    · rw [if_pos c18] at hf
      refine g_sub (L' := [(1, .int v16)]) [0] rfl ?_
      exact bX11_isRefusedAtWork_67 hX1 hX2 hf
    · rw [if_neg c18] at hf
      refine g_aload_n (j := 1) dX11_isRefusedAtWork_55 rfl rfl ?_
      refine g_iload_n (j := 0) dX11_isRefusedAtWork_56 rfl rfl ?_
      refine g_aload_n (j := 1) dX11_isRefusedAtWork_57 rfl rfl ?_
      obtain ⟨v19, ev19, hf⟩ := ob hf
      refine g_getF dX11_isRefusedAtWork_58 ev19 t_393 hin15 hc15 (by decide) rfl ?_
      obtain ⟨v20, ev20, hf⟩ := ob hf
      refine g_getIN dX11_isRefusedAtWork_61 ev20 t_299 hin6 hc6 (by decide) rfl ?_
      obtain ⟨_, h23, hf⟩ := ob hf
      obtain ⟨σ21, v22, eσ21, hf⟩ := cb_el hf
      refine g_callV_v dX11_isRefusedAtWork_64 (wX11_refuse _ eσ21) (okX11_refuse _ (by decide) (by decide)) (ckK_el h23) hc15 t_1492 t_1494 s_X11_refuse rfl (Nat.le_trans (cat_le _) (Nat.le_of_ble_eq_true rfl)) rfl ?_
      refine g_sub (L' := [(1, .int v16)]) [0] rfl ?_
      exact bX11_isRefusedAtWork_67 hX1 hX2 hf
  · rw [if_pos c3] at hf
    refine g_iconst (v := 0) dX11_isRefusedAtWork_11 (by decide) ?_
    exact g_iret dX11_isRefusedAtWork_12 rfl (by decide) hX2 hX1 hf

theorem okX11_isRefusedAtWork (M : Mt) (h1 : 8 + 1 ≤ M.2.2.2.2.1) (h2 : 8 + (2 + 11) + 304 ≤ M.2.2.2.2.2.1) : CallOk M MtX11_isRefusedAtWork yX11_isRefusedAtWork 0 := ⟨t_1538, h1, h2, ⟨by decide, by decide⟩, by decide +kernel, t_1⟩
abbrev MtX10_init : Mt := (cX10_init, 5, "ExactlySaid$Told", none, 1, 84, true)
set_option maxRecDepth 100000 in
set_option maxHeartbeats 4000000 in
theorem wX10_init (l : Launch) {σ σf : St} {x0 : Nat} {x1 : Int32} {x2 : Int32} {x3 : Nat} {x4 : Nat} {r : Unit} (hf : fX10_init σ x0 x1 x2 x3 x4 = some (σf, r)) : Con MtX10_init yX10_init l σ [rv x0, .int x1, .int x2, rv x3, rv x4] σf (none) := by
  refine Con.of (by decide +kernel) rfl (fun _ => rfl) (by simp only [sl_n, sl_r, sl_i, sl_l]; exact Nat.le_of_ble_eq_true rfl) ?_
  rw [show lv_args 0 [rv x0, .int x1, .int x2, rv x3, rv x4] = [(0, rv x0), (1, .int x1), (2, .int x2), (3, rv x3), (4, rv x4)] by simp only [la_n, la_r, la_i, la_l] <;> rfl]
  have hX1 : ((l, σ, σf, .inl (none)) : Xt).2.2.1 = σf := rfl
  have hX2 : ((l, σ, σf, .inl (none)) : Xt).2.2.2 = .inl (none) := rfl
  unfold fX10_init at hf
  refine g_aload_n (j := 0) dX10_init_0 rfl rfl ?_
  obtain ⟨_, h1, hf⟩ := ob hf
  refine g_objInit dX10_init_1 (of_decide_eq_true (ckP_el h1)) t_1557 t_42 t_43 (by decide) (by decide) (Nat.le_of_ble_eq_true rfl) ?_
  refine g_aload_n (j := 0) dX10_init_4 rfl rfl ?_
  refine g_iload_n (j := 1) dX10_init_5 rfl rfl ?_
  obtain ⟨σ2, eσ2, hf⟩ := ob hf
  refine g_putI dX10_init_6 eσ2 (Or.inl t_1558) hin14 hc14 (by decide) hty14 hnm14 (Or.inr ⟨rfl, rfl, t_1558⟩) rfl rfl rfl ?_
  refine g_aload_n (j := 0) dX10_init_9 rfl rfl ?_
  refine g_iload_n (j := 2) dX10_init_10 rfl rfl ?_
  obtain ⟨σ3, eσ3, hf⟩ := ob hf
  refine g_putI dX10_init_11 eσ3 (Or.inl t_1561) hin14 hc14 (by decide) hty14 hnm14 (Or.inr ⟨rfl, rfl, t_1561⟩) rfl rfl rfl ?_
  refine g_aload_n (j := 0) dX10_init_14 rfl rfl ?_
  refine g_aload_n (j := 3) dX10_init_15 rfl rfl ?_
  obtain ⟨σ4, eσ4, hf⟩ := ob hf
  refine g_putF dX10_init_16 eσ4 (Or.inl t_1565) hin14 hc14 (by decide) hty14 hnm14 (Or.inr ⟨rfl, rfl, t_1565⟩) rfl ?_
  refine g_aload_n (j := 0) dX10_init_19 rfl rfl ?_
  refine g_aload (j := 4) dX10_init_20 rfl ?_
  obtain ⟨σ5, eσ5, hf⟩ := ob hf
  refine g_putF dX10_init_22 eσ5 (Or.inl t_1569) hin14 hc14 (by decide) hty14 hnm14 (Or.inr ⟨rfl, rfl, t_1569⟩) rfl ?_
  exact g_vret dX10_init_25 rfl hX2 hX1 hf

theorem okX10_init (M : Mt) (h1 : 1 + 1 ≤ M.2.2.2.2.1) (h2 : 8 + (5 + 11) + 84 ≤ M.2.2.2.2.2.1) : CallOk M MtX10_init yX10_init 4 := ⟨t_1556, h1, h2, ⟨by decide, by decide⟩, by decide +kernel, t_26⟩
abbrev MtX10_key : Mt := (cX10_key, 3, "ExactlySaid$Told", (Option.some Jvm.ClassFile.FieldType.int), 1, 84, false)
set_option maxRecDepth 100000 in
set_option maxHeartbeats 4000000 in
theorem bX10_key_7 {X : Xt} {σf : St} {r : Int32} (hX1 : X.2.2.1 = σf) (hX2 : X.2.2.2 = .inl (some (.int r))) : ∀ (n : Nat) (σ : St) (x1 : Int32) (x2 : Int32), fX10_key_7 n σ x1 x2 = some (σf, r) → G MtX10_key X σ 7 [(1, .int x1), (2, .int x2)] [] := by
  intro n
  induction n with
  | zero => intro σ x1 x2 hf; cases hf
  | succ n ih =>
    intro σ x1 x2 hf
    rw [fX10_key_7] at hf
    refine g_iload_n (j := 1) dX10_key_7 rfl rfl ?_
    refine g_bipush (v := 6) dX10_key_8 (by decide) ?_
    refine g_icmp_ge (tgt := 34) dX10_key_10 (by decide) (fun c1 => ?_) (fun c1 => ?_)
    · rw [if_pos c1] at hf
      refine g_iload_n (j := 0) dX10_key_34 rfl rfl ?_
      exact g_iret dX10_key_35 rfl rfl hX2 hX1 hf
    · rw [if_neg c1] at hf
      refine g_iload_n (j := 0) dX10_key_13 rfl rfl ?_
      refine g_if_le (tgt := 34) dX10_key_14 (by decide) (fun c2 => ?_) (fun c2 => ?_)
      · rw [if_pos c2] at hf
        refine g_iload_n (j := 0) dX10_key_34 rfl rfl ?_
        exact g_iret dX10_key_35 rfl rfl hX2 hX1 hf
      · rw [if_neg c2] at hf
        refine g_iload_n (j := 0) dX10_key_17 rfl rfl ?_
        refine g_ldc (v := 14348907) dX10_key_18 t_1598 ?_
        refine g_icmp_ge (tgt := 34) dX10_key_20 (by decide) (fun c3 => ?_) (fun c3 => ?_)
        · rw [if_pos c3] at hf
          refine g_iload_n (j := 0) dX10_key_34 rfl rfl ?_
          exact g_iret dX10_key_35 rfl rfl hX2 hX1 hf
        · rw [if_neg c3] at hf
          refine g_iload_n (j := 0) dX10_key_23 rfl rfl ?_
          refine g_bipush (v := 27) dX10_key_24 (by decide) ?_
          refine g_imul dX10_key_26 ?_
          obtain ⟨v4, ev4, hf⟩ := nm_el hf
          refine g_topI ev4 ?_
          refine g_istore_n (i := 1) (L' := [(1, .int v4), (2, .int x2)]) dX10_key_27 rfl (Nat.le_of_ble_eq_true rfl) rfl ?_
          obtain ⟨v5, ev5, hf⟩ := nm_el hf
          refine g_iinc (L' := [(2, .int v5), (1, .int v4)]) (j := 1) (v := v5) dX10_key_28 rfl (by rw [ev5]; rfl) (Nat.le_of_ble_eq_true rfl) rfl ?_
          refine g_goto (tgt := 7) dX10_key_31 (by decide) ?_
          refine g_sub (L' := [(1, .int v4), (2, .int v5)]) [1, 0] rfl ?_
          exact ih _ _ _ hf

set_option maxRecDepth 100000 in
set_option maxHeartbeats 4000000 in
theorem wX10_key (l : Launch) {σ σf : St} {x0 : Nat} {r : Int32} (hf : fX10_key σ x0 = some (σf, r)) : Con MtX10_key yX10_key l σ [rv x0] σf (some (.int r)) := by
  refine Con.of (by decide +kernel) rfl (fun h => absurd (show false = true from h) (by decide)) (by simp only [sl_n, sl_r, sl_i, sl_l]; exact Nat.le_of_ble_eq_true rfl) ?_
  rw [show lv_args 0 [rv x0] = [(0, rv x0)] by simp only [la_n, la_r, la_i, la_l] <;> rfl]
  have hX1 : ((l, σ, σf, .inl (some (.int r))) : Xt).2.2.1 = σf := rfl
  have hX2 : ((l, σ, σf, .inl (some (.int r))) : Xt).2.2.2 = .inl (some (.int r)) := rfl
  unfold fX10_key at hf
  refine g_aload_n (j := 0) dX10_key_0 rfl rfl ?_
  obtain ⟨v1, ev1, hf⟩ := ob hf
  refine g_getI dX10_key_1 ev1 t_1558 hin14 hc14 (by decide) rfl ?_
  refine g_istore_n (i := 1) (L' := [(1, .int v1), (0, rv x0)]) dX10_key_4 rfl (Nat.le_of_ble_eq_true rfl) (by simp [rv_cat]) ?_
  refine g_iconst (v := 0) dX10_key_5 (by decide) ?_
  refine g_istore_n (i := 2) (L' := [(2, .int 0), (1, .int v1), (0, rv x0)]) dX10_key_6 rfl (Nat.le_of_ble_eq_true rfl) rfl ?_
  refine g_sub (L' := [(1, .int v1), (2, .int 0)]) [1, 0] rfl ?_
  exact bX10_key_7 hX1 hX2 FU _ _ _ hf

theorem okX10_key (M : Mt) (h1 : 1 + 1 ≤ M.2.2.2.2.1) (h2 : 8 + (3 + 11) + 84 ≤ M.2.2.2.2.2.1) : CallOk M MtX10_key yX10_key 0 := ⟨t_1597, h1, h2, ⟨by decide, by decide⟩, by decide +kernel, t_26⟩
abbrev MtX0_placed : Mt := (cX0_placed, 7, "ExactlySaid$Book", (Option.some (Jvm.ClassFile.FieldType.array (Jvm.ClassFile.FieldType.object "ExactlySaid$Told"))), 2, 106, false)
set_option maxRecDepth 100000 in
set_option maxHeartbeats 4000000 in
theorem bX0_placed_127 {X : Xt} {σf : St} {r : Nat} (hX1 : X.2.2.1 = σf) (hX2 : X.2.2.2 = .inl (some (rv r))) {k73 : St → Nat → Nat → Int32 → Int32 → Nat → Int32 → Option (St × Nat)} (hk73 : ∀ (σ : St) (x0 : Nat) (x1 : Nat) (x2 : Int32) (x3 : Int32) (x4 : Nat) (x5 : Int32), k73 σ x0 x1 x2 x3 x4 x5 = some (σf, r) → G MtX0_placed X σ 73 [(0, rv x0), (1, rv x1), (2, .int x2), (3, .int x3), (4, rv x4), (5, .int x5)] []) {σ : St} {x0 : Nat} {x1 : Nat} {x2 : Int32} {x3 : Int32} {x4 : Nat} {x5 : Int32} {y0 : Nat} {y1 : Int32} {y2 : Nat} (hf : fX0_placed_127 k73 σ x0 x1 x2 x3 x4 x5 y0 y1 y2 = some (σf, r)) : G MtX0_placed X σ 127 [(0, rv x0), (1, rv x1), (2, .int x2), (3, .int x3), (4, rv x4), (5, .int x5)] [rv y2, .int y1, rv y0] := by
  unfold fX0_placed_127 at hf
  obtain ⟨σ1, eσ1, hf⟩ := ob hf
  refine g_aast dX0_placed_127 (by decide) rfl hc14 eσ1 ?_
  obtain ⟨v2, ev2, hf⟩ := nm_el hf
  refine g_iinc (L' := [(5, .int v2), (0, rv x0), (1, rv x1), (2, .int x2), (3, .int x3), (4, rv x4)]) (j := 5) (v := v2) dX0_placed_128 rfl (by rw [ev2]; rfl) (Nat.le_of_ble_eq_true rfl) (by simp [rv_cat]) ?_
  refine g_goto (tgt := 73) dX0_placed_131 (by decide) ?_
  refine g_sub (L' := [(0, rv x0), (1, rv x1), (2, .int x2), (3, .int x3), (4, rv x4), (5, .int v2)]) [1, 2, 3, 4, 5, 0] rfl ?_
  exact hk73 _ _ _ _ _ _ _ hf

set_option maxRecDepth 100000 in
set_option maxHeartbeats 4000000 in
theorem bX0_placed_119 {X : Xt} {σf : St} {r : Nat} (hX1 : X.2.2.1 = σf) (hX2 : X.2.2.2 = .inl (some (rv r))) {k73 : St → Nat → Nat → Int32 → Int32 → Nat → Int32 → Option (St × Nat)} (hk73 : ∀ (σ : St) (x0 : Nat) (x1 : Nat) (x2 : Int32) (x3 : Int32) (x4 : Nat) (x5 : Int32), k73 σ x0 x1 x2 x3 x4 x5 = some (σf, r) → G MtX0_placed X σ 73 [(0, rv x0), (1, rv x1), (2, .int x2), (3, .int x3), (4, rv x4), (5, .int x5)] []) {σ : St} {x0 : Nat} {x1 : Nat} {x2 : Int32} {x3 : Int32} {x4 : Nat} {x5 : Int32} {y0 : Nat} {y1 : Int32} (hf : fX0_placed_119 k73 σ x0 x1 x2 x3 x4 x5 y0 y1 = some (σf, r)) : G MtX0_placed X σ 119 [(0, rv x0), (1, rv x1), (2, .int x2), (3, .int x3), (4, rv x4), (5, .int x5)] [.int y1, rv y0] := by
  unfold fX0_placed_119 at hf
  refine g_aload_n (j := 1) dX0_placed_119 rfl rfl ?_
  refine g_goto (tgt := 127) dX0_placed_120 (by decide) ?_
  exact bX0_placed_127 hX1 hX2 hk73 hf

set_option maxRecDepth 100000 in
set_option maxHeartbeats 4000000 in
theorem bX0_placed_100 {X : Xt} {σf : St} {r : Nat} (hX1 : X.2.2.1 = σf) (hX2 : X.2.2.2 = .inl (some (rv r))) {k73 : St → Nat → Nat → Int32 → Int32 → Nat → Int32 → Option (St × Nat)} (hk73 : ∀ (σ : St) (x0 : Nat) (x1 : Nat) (x2 : Int32) (x3 : Int32) (x4 : Nat) (x5 : Int32), k73 σ x0 x1 x2 x3 x4 x5 = some (σf, r) → G MtX0_placed X σ 73 [(0, rv x0), (1, rv x1), (2, .int x2), (3, .int x3), (4, rv x4), (5, .int x5)] []) {σ : St} {x0 : Nat} {x1 : Nat} {x2 : Int32} {x3 : Int32} {x4 : Nat} {x5 : Int32} {y0 : Int32} (hf : fX0_placed_100 k73 σ x0 x1 x2 x3 x4 x5 y0 = some (σf, r)) : G MtX0_placed X σ 100 [(0, rv x0), (1, rv x1), (2, .int x2), (3, .int x3), (4, rv x4), (5, .int x5)] [.int y0] := by
  unfold fX0_placed_100 at hf
  refine g_istore (i := 6) (L' := [(6, .int y0), (0, rv x0), (1, rv x1), (2, .int x2), (3, .int x3), (4, rv x4), (5, .int x5)]) dX0_placed_100 (Nat.le_of_ble_eq_true rfl) rfl ?_
  refine g_aload (j := 5) dX0_placed_102 rfl ?_
  refine g_iload (j := 6) dX0_placed_104 rfl ?_
  refine g_iload (j := 6) dX0_placed_106 rfl ?_
  refine g_iload_n (j := 3) dX0_placed_108 rfl rfl ?_
  refine g_icmp_eq (tgt := 119) dX0_placed_109 (by decide) (fun c1 => ?_) (fun c1 => ?_)
  · rw [if_pos c1] at hf
    refine g_sub (L' := [(0, rv x0), (1, rv x1), (2, .int x2), (3, .int x3), (4, rv x4), (5, .int x5)]) [1, 2, 3, 4, 5, 6] rfl ?_
    exact bX0_placed_119 hX1 hX2 hk73 hf
  · rw [if_neg c1] at hf
    refine g_iload (j := 0) dX0_placed_112 rfl ?_
    refine g_aload_n (j := 1) dX0_placed_114 rfl rfl ?_
    obtain ⟨v2, ev2, hf⟩ := ob hf
    refine g_alen dX0_placed_115 ev2 ?_
    refine g_icmp_lt (tgt := 123) dX0_placed_116 (by decide) (fun c3 => ?_) (fun c3 => ?_)
    · rw [if_pos c3] at hf
      refine g_aload_n (j := 1) dX0_placed_123 rfl rfl ?_
      refine g_iload (j := 0) dX0_placed_124 rfl ?_
      obtain ⟨v4, ev4, hf⟩ := ob hf
      refine g_aald dX0_placed_126 (by decide) rfl ev4 ?_
      refine g_sub (L' := [(0, rv x0), (1, rv x1), (2, .int x2), (3, .int x3), (4, rv x4), (5, .int x5)]) [1, 2, 3, 4, 5, 6] rfl ?_
      exact bX0_placed_127 hX1 hX2 hk73 hf
    · rw [if_neg c3] at hf
      refine g_sub (L' := [(0, rv x0), (1, rv x1), (2, .int x2), (3, .int x3), (4, rv x4), (5, .int x5)]) [1, 2, 3, 4, 5, 6] rfl ?_
      exact bX0_placed_119 hX1 hX2 hk73 hf

set_option maxRecDepth 100000 in
set_option maxHeartbeats 4000000 in
theorem bX0_placed_98 {X : Xt} {σf : St} {r : Nat} (hX1 : X.2.2.1 = σf) (hX2 : X.2.2.2 = .inl (some (rv r))) {k73 : St → Nat → Nat → Int32 → Int32 → Nat → Int32 → Option (St × Nat)} (hk73 : ∀ (σ : St) (x0 : Nat) (x1 : Nat) (x2 : Int32) (x3 : Int32) (x4 : Nat) (x5 : Int32), k73 σ x0 x1 x2 x3 x4 x5 = some (σf, r) → G MtX0_placed X σ 73 [(0, rv x0), (1, rv x1), (2, .int x2), (3, .int x3), (4, rv x4), (5, .int x5)] []) {σ : St} {x0 : Nat} {x1 : Nat} {x2 : Int32} {x3 : Int32} {x4 : Nat} {x5 : Int32} (hf : fX0_placed_98 k73 σ x0 x1 x2 x3 x4 x5 = some (σf, r)) : G MtX0_placed X σ 98 [(0, rv x0), (1, rv x1), (2, .int x2), (3, .int x3), (4, rv x4), (5, .int x5)] [] := by
  unfold fX0_placed_98 at hf
  refine g_iload (j := 5) dX0_placed_98 rfl ?_
  exact bX0_placed_100 hX1 hX2 hk73 hf

set_option maxRecDepth 100000 in
set_option maxHeartbeats 4000000 in
theorem bX0_placed_73 {X : Xt} {σf : St} {r : Nat} (hX1 : X.2.2.1 = σf) (hX2 : X.2.2.2 = .inl (some (rv r))) : ∀ (n : Nat) (σ : St) (x0 : Nat) (x1 : Nat) (x2 : Int32) (x3 : Int32) (x4 : Nat) (x5 : Int32), fX0_placed_73 n σ x0 x1 x2 x3 x4 x5 = some (σf, r) → G MtX0_placed X σ 73 [(0, rv x0), (1, rv x1), (2, .int x2), (3, .int x3), (4, rv x4), (5, .int x5)] [] := by
  intro n
  induction n with
  | zero => intro σ x0 x1 x2 x3 x4 x5 hf; cases hf
  | succ n ih =>
    intro σ x0 x1 x2 x3 x4 x5 hf
    rw [fX0_placed_73] at hf
    refine g_iload (j := 5) dX0_placed_73 rfl ?_
    refine g_aload (j := 4) dX0_placed_75 rfl ?_
    obtain ⟨v1, ev1, hf⟩ := ob hf
    refine g_alen dX0_placed_77 ev1 ?_
    refine g_icmp_ge (tgt := 134) dX0_placed_78 (by decide) (fun c2 => ?_) (fun c2 => ?_)
    · rw [if_pos c2] at hf
      refine g_aload (j := 4) dX0_placed_134 rfl ?_
      exact g_aret dX0_placed_136 rfl rfl hX2 hX1 hf
    · rw [if_neg c2] at hf
      refine g_iload_n (j := 3) dX0_placed_81 rfl rfl ?_
      refine g_if_eq (tgt := 98) dX0_placed_82 (by decide) (fun c3 => ?_) (fun c3 => ?_)
      · rw [if_pos c3] at hf
        exact bX0_placed_98 hX1 hX2 (fun σ x0 x1 x2 x3 x4 x5 hf => ih σ x0 x1 x2 x3 x4 x5 hf) hf
      · rw [if_neg c3] at hf
        refine g_iload (j := 5) dX0_placed_85 rfl ?_
        refine g_iload_n (j := 2) dX0_placed_87 rfl rfl ?_
        refine g_icmp_le (tgt := 98) dX0_placed_88 (by decide) (fun c4 => ?_) (fun c4 => ?_)
        · rw [if_pos c4] at hf
          exact bX0_placed_98 hX1 hX2 (fun σ x0 x1 x2 x3 x4 x5 hf => ih σ x0 x1 x2 x3 x4 x5 hf) hf
        · rw [if_neg c4] at hf
          refine g_iload (j := 5) dX0_placed_91 rfl ?_
          refine g_iconst (v := 1) dX0_placed_93 (by decide) ?_
          refine g_isub dX0_placed_94 ?_
          refine g_goto (tgt := 100) dX0_placed_95 (by decide) ?_
          exact bX0_placed_100 hX1 hX2 (fun σ x0 x1 x2 x3 x4 x5 hf => ih σ x0 x1 x2 x3 x4 x5 hf) hf

set_option maxRecDepth 100000 in
set_option maxHeartbeats 4000000 in
theorem bX0_placed_65 {X : Xt} {σf : St} {r : Nat} (hX1 : X.2.2.1 = σf) (hX2 : X.2.2.2 = .inl (some (rv r))) {σ : St} {x0 : Nat} {x1 : Nat} {x2 : Int32} {x3 : Int32} {y0 : Int32} (hf : fX0_placed_65 σ x0 x1 x2 x3 y0 = some (σf, r)) : G MtX0_placed X σ 65 [(0, rv x0), (1, rv x1), (2, .int x2), (3, .int x3)] [.int y0] := by
  unfold fX0_placed_65 at hf
  obtain ⟨σ1, eσ1, hf⟩ := ob hf
  obtain ⟨a2, ea2, hf⟩ := nm_el hf
  refine g_newq9 dX0_placed_65 eσ1 (by decide) rfl t_1599 t_329 ea2 ?_
  refine g_astore (i := 4) (L' := [(4, rv a2), (0, rv x0), (1, rv x1), (2, .int x2), (3, .int x3)]) dX0_placed_68 (Nat.le_of_ble_eq_true rfl) rfl ?_
  refine g_iconst (v := 0) dX0_placed_70 (by decide) ?_
  refine g_istore (i := 5) (L' := [(5, .int 0), (4, rv a2), (0, rv x0), (1, rv x1), (2, .int x2), (3, .int x3)]) dX0_placed_71 (Nat.le_of_ble_eq_true rfl) (by simp [rv_cat]) ?_
  refine g_sub (L' := [(0, rv x0), (1, rv x1), (2, .int x2), (3, .int x3), (4, rv a2), (5, .int 0)]) [2, 3, 4, 5, 1, 0] rfl ?_
  exact bX0_placed_73 hX1 hX2 FU _ _ _ _ _ _ _ hf

set_option maxRecDepth 100000 in
set_option maxHeartbeats 4000000 in
theorem bX0_placed_51 {X : Xt} {σf : St} {r : Nat} (hX1 : X.2.2.1 = σf) (hX2 : X.2.2.2 = .inl (some (rv r))) {σ : St} {x0 : Nat} {x1 : Nat} {x2 : Int32} {y0 : Int32} (hf : fX0_placed_51 σ x0 x1 x2 y0 = some (σf, r)) : G MtX0_placed X σ 51 [(0, rv x0), (1, rv x1), (2, .int x2)] [.int y0] := by
  unfold fX0_placed_51 at hf
  refine g_istore_n (i := 3) (L' := [(3, .int y0), (0, rv x0), (1, rv x1), (2, .int x2)]) dX0_placed_51 rfl (Nat.le_of_ble_eq_true rfl) rfl ?_
  refine g_iload_n (j := 0) dX0_placed_52 rfl rfl ?_
  refine g_if_eq (tgt := 63) dX0_placed_53 (by decide) (fun c1 => ?_) (fun c1 => ?_)
  · rw [if_pos c1] at hf
    refine g_aload_n (j := 1) dX0_placed_63 rfl rfl ?_
    obtain ⟨v2, ev2, hf⟩ := ob hf
    refine g_alen dX0_placed_64 ev2 ?_
    refine g_sub (L' := [(0, rv x0), (1, rv x1), (2, .int x2), (3, .int y0)]) [1, 2, 3, 0] rfl ?_
    exact bX0_placed_65 hX1 hX2 hf
  · rw [if_neg c1] at hf
    refine g_aload_n (j := 1) dX0_placed_56 rfl rfl ?_
    obtain ⟨v3, ev3, hf⟩ := ob hf
    refine g_alen dX0_placed_57 ev3 ?_
    refine g_iconst (v := 1) dX0_placed_58 (by decide) ?_
    refine g_iadd dX0_placed_59 ?_
    refine g_goto (tgt := 65) dX0_placed_60 (by decide) ?_
    refine g_sub (L' := [(0, rv x0), (1, rv x1), (2, .int x2), (3, .int y0)]) [1, 2, 3, 0] rfl ?_
    exact bX0_placed_65 hX1 hX2 hf

set_option maxRecDepth 100000 in
set_option maxHeartbeats 4000000 in
theorem bX0_placed_46 {X : Xt} {σf : St} {r : Nat} (hX1 : X.2.2.1 = σf) (hX2 : X.2.2.2 = .inl (some (rv r))) {σ : St} {x0 : Nat} {x1 : Nat} {x2 : Int32} (hf : fX0_placed_46 σ x0 x1 x2 = some (σf, r)) : G MtX0_placed X σ 46 [(0, rv x0), (1, rv x1), (2, .int x2)] [] := by
  unfold fX0_placed_46 at hf
  refine g_iconst (v := 1) dX0_placed_46 (by decide) ?_
  refine g_goto (tgt := 51) dX0_placed_47 (by decide) ?_
  exact bX0_placed_51 hX1 hX2 hf

set_option maxRecDepth 100000 in
set_option maxHeartbeats 4000000 in
theorem bX0_placed_27 {X : Xt} {σf : St} {r : Nat} (hX1 : X.2.2.1 = σf) (hX2 : X.2.2.2 = .inl (some (rv r))) {σ : St} {x0 : Nat} {x1 : Nat} {x2 : Int32} (hf : fX0_placed_27 σ x0 x1 x2 = some (σf, r)) : G MtX0_placed X σ 27 [(0, rv x0), (1, rv x1), (2, .int x2)] [] := by
  unfold fX0_placed_27 at hf
  refine g_iload_n (j := 2) dX0_placed_27 rfl rfl ?_
  refine g_aload_n (j := 0) dX0_placed_28 rfl rfl ?_
  obtain ⟨v1, ev1, hf⟩ := ob hf
  refine g_alen dX0_placed_29 ev1 ?_
  refine g_icmp_ge (tgt := 46) dX0_placed_30 (by decide) (fun c2 => ?_) (fun c2 => ?_)
  · rw [if_pos c2] at hf
    exact bX0_placed_46 hX1 hX2 hf
  · rw [if_neg c2] at hf
    refine g_aload_n (j := 0) dX0_placed_33 rfl rfl ?_
    refine g_iload_n (j := 2) dX0_placed_34 rfl rfl ?_
    obtain ⟨v3, ev3, hf⟩ := ob hf
    refine g_aald dX0_placed_35 (by decide) rfl ev3 ?_
    obtain ⟨v4, ev4, hf⟩ := ob hf
    refine g_getIN dX0_placed_36 ev4 t_1559 hin14 hc14 (by decide) rfl ?_
    refine g_aload_n (j := 1) dX0_placed_39 rfl rfl ?_
    obtain ⟨v5, ev5, hf⟩ := ob hf
    refine g_getIN dX0_placed_40 ev5 t_1559 hin14 hc14 (by decide) rfl ?_
    refine g_icmp_eq (tgt := 50) dX0_placed_43 (by decide) (fun c6 => ?_) (fun c6 => ?_)
    · rw [if_pos c6] at hf
      refine g_iconst (v := 0) dX0_placed_50 (by decide) ?_
      exact bX0_placed_51 hX1 hX2 hf
    · rw [if_neg c6] at hf
      exact bX0_placed_46 hX1 hX2 hf

set_option maxRecDepth 100000 in
set_option maxHeartbeats 4000000 in
theorem bX0_placed_2 {X : Xt} {σf : St} {r : Nat} (hX1 : X.2.2.1 = σf) (hX2 : X.2.2.2 = .inl (some (rv r))) : ∀ (n : Nat) (σ : St) (x0 : Nat) (x1 : Nat) (x2 : Int32), fX0_placed_2 n σ x0 x1 x2 = some (σf, r) → G MtX0_placed X σ 2 [(0, rv x0), (1, rv x1), (2, .int x2)] [] := by
  intro n
  induction n with
  | zero => intro σ x0 x1 x2 hf; cases hf
  | succ n ih =>
    intro σ x0 x1 x2 hf
    rw [fX0_placed_2] at hf
    refine g_iload_n (j := 2) dX0_placed_2 rfl rfl ?_
    refine g_aload_n (j := 0) dX0_placed_3 rfl rfl ?_
    obtain ⟨v1, ev1, hf⟩ := ob hf
    refine g_alen dX0_placed_4 ev1 ?_
    refine g_icmp_ge (tgt := 27) dX0_placed_5 (by decide) (fun c2 => ?_) (fun c2 => ?_)
    · rw [if_pos c2] at hf
      exact bX0_placed_27 hX1 hX2 hf
    · rw [if_neg c2] at hf
      refine g_aload_n (j := 0) dX0_placed_8 rfl rfl ?_
      refine g_iload_n (j := 2) dX0_placed_9 rfl rfl ?_
      obtain ⟨v3, ev3, hf⟩ := ob hf
      refine g_aald dX0_placed_10 (by decide) rfl ev3 ?_
      obtain ⟨_, h6, hf⟩ := ob hf
      obtain ⟨σ4, v5, eσ4, hf⟩ := cb_el hf
      refine g_callVN_i dX0_placed_11 (wX10_key _ eσ4) (okX10_key _ (by decide) (by decide)) (ckK_el h6) hc14 t_1594 t_1596 s_X10_key rfl (Nat.le_trans (cat_le _) (Nat.le_of_ble_eq_true rfl)) rfl ?_
      refine g_aload_n (j := 1) dX0_placed_14 rfl rfl ?_
      obtain ⟨_, h9, hf⟩ := ob hf
      obtain ⟨σ7, v8, eσ7, hf⟩ := cb_el hf
      refine g_callVN_i dX0_placed_15 (wX10_key _ eσ7) (okX10_key _ (by decide) (by decide)) (ckK_el h9) hc14 t_1594 t_1596 s_X10_key rfl (Nat.le_trans (cat_le _) (Nat.le_of_ble_eq_true rfl)) rfl ?_
      refine g_icmp_ge (tgt := 27) dX0_placed_18 (by decide) (fun c10 => ?_) (fun c10 => ?_)
      · rw [if_pos c10] at hf
        exact bX0_placed_27 hX1 hX2 hf
      · rw [if_neg c10] at hf
        obtain ⟨v11, ev11, hf⟩ := nm_el hf
        refine g_iinc (L' := [(2, .int v11), (0, rv x0), (1, rv x1)]) (j := 2) (v := v11) dX0_placed_21 rfl (by rw [ev11]; rfl) (Nat.le_of_ble_eq_true rfl) (by simp [rv_cat]) ?_
        refine g_goto (tgt := 2) dX0_placed_24 (by decide) ?_
        refine g_sub (L' := [(0, rv x0), (1, rv x1), (2, .int v11)]) [1, 2, 0] rfl ?_
        exact ih _ _ _ _ hf

set_option maxRecDepth 100000 in
set_option maxHeartbeats 4000000 in
theorem wX0_placed (l : Launch) {σ σf : St} {x0 : Nat} {x1 : Nat} {r : Nat} (hf : fX0_placed σ x0 x1 = some (σf, r)) : Con MtX0_placed yX0_placed l σ [rv x0, rv x1] σf (some (rv r)) := by
  refine Con.of (by decide +kernel) rfl (fun h => absurd (show false = true from h) (by decide)) (by simp only [sl_n, sl_r, sl_i, sl_l]; exact Nat.le_of_ble_eq_true rfl) ?_
  rw [show lv_args 0 [rv x0, rv x1] = [(0, rv x0), (1, rv x1)] by simp only [la_n, la_r, la_i, la_l] <;> rfl]
  have hX1 : ((l, σ, σf, .inl (some (rv r))) : Xt).2.2.1 = σf := rfl
  have hX2 : ((l, σ, σf, .inl (some (rv r))) : Xt).2.2.2 = .inl (some (rv r)) := rfl
  unfold fX0_placed at hf
  refine g_iconst (v := 0) dX0_placed_0 (by decide) ?_
  refine g_istore_n (i := 2) (L' := [(2, .int 0), (0, rv x0), (1, rv x1)]) dX0_placed_1 rfl (Nat.le_of_ble_eq_true rfl) (by simp [rv_cat]) ?_
  refine g_sub (L' := [(0, rv x0), (1, rv x1), (2, .int 0)]) [1, 2, 0] rfl ?_
  exact bX0_placed_2 hX1 hX2 FU _ _ _ _ hf

theorem okX0_placed (M : Mt) (h1 : 2 + 1 ≤ M.2.2.2.2.1) (h2 : 8 + (7 + 11) + 106 ≤ M.2.2.2.2.2.1) : CallOk M MtX0_placed yX0_placed 2 := ⟨t_1593, h1, h2, ⟨by decide, by decide⟩, by decide +kernel, t_13⟩
abbrev MtX0_weave : Mt := (cX0_weave, 3, "ExactlySaid$Book", none, 3, 132, false)
set_option maxRecDepth 100000 in
set_option maxHeartbeats 4000000 in
theorem bX0_weave_38 {X : Xt} {σf : St} {r : Unit} (hX1 : X.2.2.1 = σf) (hX2 : X.2.2.2 = .inl (none)) {k2 : St → Nat → Int32 → Option (St × Unit)} (hk2 : ∀ (σ : St) (x0 : Nat) (x1 : Int32), k2 σ x0 x1 = some (σf, r) → G MtX0_weave X σ 2 [(0, rv x0), (1, .int x1)] []) {σ : St} {x0 : Nat} {x1 : Int32} {y0 : Nat} {y1 : Int32} {y2 : Int32} (hf : fX0_weave_38 k2 σ x0 x1 y0 y1 y2 = some (σf, r)) : G MtX0_weave X σ 38 [(0, rv x0), (1, .int x1)] [.int y2, .int y1, rv y0] := by
  unfold fX0_weave_38 at hf
  obtain ⟨σ1, eσ1, hf⟩ := ob hf
  refine g_iast dX0_weave_38 eσ1 ?_
  refine g_aload_n (j := 0) dX0_weave_39 rfl rfl ?_
  obtain ⟨v2, ev2, hf⟩ := ob hf
  refine g_getF dX0_weave_40 ev2 t_339 hin4 hc4 (by decide) rfl ?_
  refine g_iload_n (j := 1) dX0_weave_43 rfl rfl ?_
  refine g_aload_n (j := 0) dX0_weave_44 rfl rfl ?_
  obtain ⟨v3, ev3, hf⟩ := ob hf
  refine g_getF dX0_weave_45 ev3 t_338 hin4 hc4 (by decide) rfl ?_
  refine g_iload_n (j := 1) dX0_weave_48 rfl rfl ?_
  obtain ⟨v4, ev4, hf⟩ := ob hf
  refine g_iald dX0_weave_49 ev4 ?_
  obtain ⟨σ5, eσ5, hf⟩ := ob hf
  refine g_iast dX0_weave_50 eσ5 ?_
  obtain ⟨v6, ev6, hf⟩ := nm_el hf
  refine g_iinc (L' := [(1, .int v6), (0, rv x0)]) (j := 1) (v := v6) dX0_weave_51 rfl (by rw [ev6]; rfl) (Nat.le_of_ble_eq_true rfl) (by simp [rv_cat]) ?_
  refine g_goto (tgt := 2) dX0_weave_54 (by decide) ?_
  refine g_sub (L' := [(0, rv x0), (1, .int v6)]) [1, 0] rfl ?_
  exact hk2 _ _ _ hf

set_option maxRecDepth 100000 in
set_option maxHeartbeats 4000000 in
theorem bX0_weave_107 {X : Xt} {σf : St} {r : Unit} (hX1 : X.2.2.1 = σf) (hX2 : X.2.2.2 = .inl (none)) {k59 : St → Nat → Int32 → Option (St × Unit)} {k70 : St → Nat → Int32 → Int32 → Option (St × Unit)} (hk59 : ∀ (σ : St) (x0 : Nat) (x1 : Int32), k59 σ x0 x1 = some (σf, r) → G MtX0_weave X σ 59 [(0, rv x0), (1, .int x1)] []) (hk70 : ∀ (σ : St) (x0 : Nat) (x1 : Int32) (x2 : Int32), k70 σ x0 x1 x2 = some (σf, r) → G MtX0_weave X σ 70 [(0, rv x0), (1, .int x1), (2, .int x2)] []) {σ : St} {x0 : Nat} {x1 : Int32} {x2 : Int32} (hf : fX0_weave_107 k59 k70 σ x0 x1 x2 = some (σf, r)) : G MtX0_weave X σ 107 [(0, rv x0), (1, .int x1), (2, .int x2)] [] := by
  unfold fX0_weave_107 at hf
  obtain ⟨v1, ev1, hf⟩ := nm_el hf
  refine g_iinc (L' := [(2, .int v1), (0, rv x0), (1, .int x1)]) (j := 2) (v := v1) dX0_weave_107 rfl (by rw [ev1]; rfl) (Nat.le_of_ble_eq_true rfl) rfl ?_
  refine g_goto (tgt := 70) dX0_weave_110 (by decide) ?_
  refine g_sub (L' := [(0, rv x0), (1, .int x1), (2, .int v1)]) [1, 2, 0] rfl ?_
  exact hk70 _ _ _ _ hf

set_option maxRecDepth 100000 in
set_option maxHeartbeats 4000000 in
theorem bX0_weave_70 {X : Xt} {σf : St} {r : Unit} (hX1 : X.2.2.1 = σf) (hX2 : X.2.2.2 = .inl (none)) {k59 : St → Nat → Int32 → Option (St × Unit)} (hk59 : ∀ (σ : St) (x0 : Nat) (x1 : Int32), k59 σ x0 x1 = some (σf, r) → G MtX0_weave X σ 59 [(0, rv x0), (1, .int x1)] []) : ∀ (n : Nat) (σ : St) (x0 : Nat) (x1 : Int32) (x2 : Int32), fX0_weave_70 k59 n σ x0 x1 x2 = some (σf, r) → G MtX0_weave X σ 70 [(0, rv x0), (1, .int x1), (2, .int x2)] [] := by
  intro n
  induction n with
  | zero => intro σ x0 x1 x2 hf; cases hf
  | succ n ih =>
    intro σ x0 x1 x2 hf
    rw [fX0_weave_70] at hf
    refine g_iload_n (j := 2) dX0_weave_70 rfl rfl ?_
    refine g_aload_n (j := 0) dX0_weave_71 rfl rfl ?_
    obtain ⟨v1, ev1, hf⟩ := ob hf
    refine g_getF dX0_weave_72 ev1 t_339 hin4 hc4 (by decide) rfl ?_
    obtain ⟨v2, ev2, hf⟩ := ob hf
    refine g_alen dX0_weave_75 ev2 ?_
    refine g_icmp_ge (tgt := 113) dX0_weave_76 (by decide) (fun c3 => ?_) (fun c3 => ?_)
    · rw [if_pos c3] at hf
      obtain ⟨v4, ev4, hf⟩ := nm_el hf
      refine g_iinc (L' := [(1, .int v4), (0, rv x0), (2, .int x2)]) (j := 1) (v := v4) dX0_weave_113 rfl (by rw [ev4]; rfl) (Nat.le_of_ble_eq_true rfl) (by simp [rv_cat]) ?_
      refine g_goto (tgt := 59) dX0_weave_116 (by decide) ?_
      refine g_sub (L' := [(0, rv x0), (1, .int v4)]) [1, 0] rfl ?_
      exact hk59 _ _ _ hf
    · rw [if_neg c3] at hf
      refine g_aload_n (j := 0) dX0_weave_79 rfl rfl ?_
      obtain ⟨v5, ev5, hf⟩ := ob hf
      refine g_getF dX0_weave_80 ev5 t_339 hin4 hc4 (by decide) rfl ?_
      refine g_iload_n (j := 2) dX0_weave_83 rfl rfl ?_
      obtain ⟨v6, ev6, hf⟩ := ob hf
      refine g_iald dX0_weave_84 ev6 ?_
      refine g_iload_n (j := 1) dX0_weave_85 rfl rfl ?_
      refine g_iushr dX0_weave_86 rfl ?_
      refine g_iconst (v := 1) dX0_weave_87 (by decide) ?_
      refine g_iand dX0_weave_88 ?_
      refine g_if_eq (tgt := 107) dX0_weave_89 (by decide) (fun c7 => ?_) (fun c7 => ?_)
      · rw [if_pos c7] at hf
        exact bX0_weave_107 hX1 hX2 hk59 (fun σ x0 x1 x2 hf => ih σ x0 x1 x2 hf) hf
      · rw [if_neg c7] at hf
        refine g_aload_n (j := 0) dX0_weave_92 rfl rfl ?_
        obtain ⟨v8, ev8, hf⟩ := ob hf
        refine g_getF dX0_weave_93 ev8 t_339 hin4 hc4 (by decide) rfl ?_
        refine g_iload_n (j := 2) dX0_weave_96 rfl rfl ?_
        refine g_dup2 dX0_weave_97 rfl (rv_cat _) ?_
        obtain ⟨v9, ev9, hf⟩ := ob hf
        refine g_iald dX0_weave_98 ev9 ?_
        refine g_aload_n (j := 0) dX0_weave_99 rfl rfl ?_
        obtain ⟨v10, ev10, hf⟩ := ob hf
        refine g_getF dX0_weave_100 ev10 t_339 hin4 hc4 (by decide) rfl ?_
        refine g_iload_n (j := 1) dX0_weave_103 rfl rfl ?_
        obtain ⟨v11, ev11, hf⟩ := ob hf
        refine g_iald dX0_weave_104 ev11 ?_
        refine g_ior dX0_weave_105 ?_
        obtain ⟨σ12, eσ12, hf⟩ := ob hf
        refine g_iast dX0_weave_106 eσ12 ?_
        exact bX0_weave_107 hX1 hX2 hk59 (fun σ x0 x1 x2 hf => ih σ x0 x1 x2 hf) hf

set_option maxRecDepth 100000 in
set_option maxHeartbeats 4000000 in
theorem bX0_weave_59 {X : Xt} {σf : St} {r : Unit} (hX1 : X.2.2.1 = σf) (hX2 : X.2.2.2 = .inl (none)) : ∀ (n : Nat) (σ : St) (x0 : Nat) (x1 : Int32), fX0_weave_59 n σ x0 x1 = some (σf, r) → G MtX0_weave X σ 59 [(0, rv x0), (1, .int x1)] [] := by
  intro n
  induction n with
  | zero => intro σ x0 x1 hf; cases hf
  | succ n ih =>
    intro σ x0 x1 hf
    rw [fX0_weave_59] at hf
    refine g_iload_n (j := 1) dX0_weave_59 rfl rfl ?_
    refine g_aload_n (j := 0) dX0_weave_60 rfl rfl ?_
    obtain ⟨v1, ev1, hf⟩ := ob hf
    refine g_getF dX0_weave_61 ev1 t_339 hin4 hc4 (by decide) rfl ?_
    obtain ⟨v2, ev2, hf⟩ := ob hf
    refine g_alen dX0_weave_64 ev2 ?_
    refine g_icmp_ge (tgt := 119) dX0_weave_65 (by decide) (fun c3 => ?_) (fun c3 => ?_)
    · rw [if_pos c3] at hf
      exact g_vret dX0_weave_119 rfl hX2 hX1 hf
    · rw [if_neg c3] at hf
      refine g_iconst (v := 0) dX0_weave_68 (by decide) ?_
      refine g_istore_n (i := 2) (L' := [(2, .int 0), (0, rv x0), (1, .int x1)]) dX0_weave_69 rfl (Nat.le_of_ble_eq_true rfl) rfl ?_
      refine g_sub (L' := [(0, rv x0), (1, .int x1), (2, .int 0)]) [1, 2, 0] rfl ?_
      exact bX0_weave_70 hX1 hX2 (fun σ x0 x1 hf => ih σ x0 x1 hf) FU _ _ _ _ hf

set_option maxRecDepth 100000 in
set_option maxHeartbeats 4000000 in
theorem bX0_weave_2 {X : Xt} {σf : St} {r : Unit} (hX1 : X.2.2.1 = σf) (hX2 : X.2.2.2 = .inl (none)) : ∀ (n : Nat) (σ : St) (x0 : Nat) (x1 : Int32), fX0_weave_2 n σ x0 x1 = some (σf, r) → G MtX0_weave X σ 2 [(0, rv x0), (1, .int x1)] [] := by
  intro n
  induction n with
  | zero => intro σ x0 x1 hf; cases hf
  | succ n ih =>
    intro σ x0 x1 hf
    rw [fX0_weave_2] at hf
    refine g_iload_n (j := 1) dX0_weave_2 rfl rfl ?_
    refine g_aload_n (j := 0) dX0_weave_3 rfl rfl ?_
    obtain ⟨v1, ev1, hf⟩ := ob hf
    refine g_getF dX0_weave_4 ev1 t_338 hin4 hc4 (by decide) rfl ?_
    obtain ⟨v2, ev2, hf⟩ := ob hf
    refine g_alen dX0_weave_7 ev2 ?_
    refine g_icmp_ge (tgt := 57) dX0_weave_8 (by decide) (fun c3 => ?_) (fun c3 => ?_)
    · rw [if_pos c3] at hf
      refine g_iconst (v := 0) dX0_weave_57 (by decide) ?_
      refine g_istore_n (i := 1) (L' := [(1, .int 0), (0, rv x0)]) dX0_weave_58 rfl (Nat.le_of_ble_eq_true rfl) (by simp [rv_cat]) ?_
      refine g_sub (L' := [(0, rv x0), (1, .int 0)]) [1, 0] rfl ?_
      exact bX0_weave_59 hX1 hX2 FU _ _ _ hf
    · rw [if_neg c3] at hf
      refine g_aload_n (j := 0) dX0_weave_11 rfl rfl ?_
      refine g_iload_n (j := 1) dX0_weave_12 rfl rfl ?_
      obtain ⟨_, h6, hf⟩ := ob hf
      obtain ⟨σ4, a5, eσ4, hf⟩ := cb_el hf
      refine g_callV_q dX0_weave_13 (wX0_toldAt _ eσ4) (okX0_toldAt _ (by decide) (by decide)) (ckK_el h6) hc4 t_1490 t_1134 s_X0_toldAt rfl (Nat.le_trans (cat_le _) (Nat.le_of_ble_eq_true rfl)) rfl ?_
      refine g_astore_n (i := 2) (L' := [(2, rv a5), (0, rv x0), (1, .int x1)]) dX0_weave_16 rfl (Nat.le_of_ble_eq_true rfl) rfl ?_
      refine g_aload_n (j := 1) dX0_weave_17 rfl rfl ?_
      obtain ⟨v7, ev7, hf⟩ := ob hf
      refine g_getF dX0_weave_18 ev7 t_338 hin4 hc4 (by decide) rfl ?_
      refine g_iload_n (j := 2) dX0_weave_21 rfl rfl ?_
      refine g_aload_n (j := 0) dX0_weave_22 rfl rfl ?_
      refine g_ifnonnull (tgt := 30) dX0_weave_23 (by decide) (fun c8 => ?_) (fun c8 => ?_)
      · rw [if_neg c8] at hf
        refine g_aload_n (j := 1) dX0_weave_30 rfl rfl ?_
        refine g_aload_n (j := 0) dX0_weave_31 rfl rfl ?_
        obtain ⟨v9, ev9, hf⟩ := ob hf
        refine g_getFN dX0_weave_32 ev9 t_1566 hin14 hc14 (by decide) rfl ?_
        obtain ⟨_, h12, hf⟩ := ob hf
        obtain ⟨σ10, v11, eσ10, hf⟩ := cb_el hf
        refine g_callV_i dX0_weave_35 (wX0_usedBy _ eσ10) (okX0_usedBy _ (by decide) (by decide)) (ckK_el h12) hc4 t_1605 t_1512 s_X0_usedBy rfl (Nat.le_trans (cat_le _) (Nat.le_of_ble_eq_true rfl)) rfl ?_
        refine g_sub (L' := [(0, rv x0), (1, .int x1)]) [1, 2] rfl ?_
        exact bX0_weave_38 hX1 hX2 (fun σ x0 x1 hf => ih σ x0 x1 hf) hf
      · rw [if_pos c8] at hf
        refine g_iconst (v := 0) dX0_weave_26 (by decide) ?_
        refine g_goto (tgt := 38) dX0_weave_27 (by decide) ?_
        refine g_sub (L' := [(0, rv x0), (1, .int x1)]) [1, 2] rfl ?_
        exact bX0_weave_38 hX1 hX2 (fun σ x0 x1 hf => ih σ x0 x1 hf) hf

set_option maxRecDepth 100000 in
set_option maxHeartbeats 4000000 in
theorem wX0_weave (l : Launch) {σ σf : St} {x0 : Nat} {r : Unit} (hf : fX0_weave σ x0 = some (σf, r)) : Con MtX0_weave yX0_weave l σ [rv x0] σf (none) := by
  refine Con.of (by decide +kernel) rfl (fun h => absurd (show false = true from h) (by decide)) (by simp only [sl_n, sl_r, sl_i, sl_l]; exact Nat.le_of_ble_eq_true rfl) ?_
  rw [show lv_args 0 [rv x0] = [(0, rv x0)] by simp only [la_n, la_r, la_i, la_l] <;> rfl]
  have hX1 : ((l, σ, σf, .inl (none)) : Xt).2.2.1 = σf := rfl
  have hX2 : ((l, σ, σf, .inl (none)) : Xt).2.2.2 = .inl (none) := rfl
  unfold fX0_weave at hf
  refine g_iconst (v := 0) dX0_weave_0 (by decide) ?_
  refine g_istore_n (i := 1) (L' := [(1, .int 0), (0, rv x0)]) dX0_weave_1 rfl (Nat.le_of_ble_eq_true rfl) (by simp [rv_cat]) ?_
  refine g_sub (L' := [(0, rv x0), (1, .int 0)]) [1, 0] rfl ?_
  exact bX0_weave_2 hX1 hX2 FU _ _ _ hf

theorem okX0_weave (M : Mt) (h1 : 3 + 1 ≤ M.2.2.2.2.1) (h2 : 8 + (3 + 11) + 132 ≤ M.2.2.2.2.2.1) : CallOk M MtX0_weave yX0_weave 0 := ⟨t_1604, h1, h2, ⟨by decide, by decide⟩, by decide +kernel, t_13⟩
abbrev MtX0_with : Mt := (cX0_with, 4, "ExactlySaid$Book", (Option.some (Jvm.ClassFile.FieldType.object "ExactlySaid$Book")), 4, 154, false)
set_option maxRecDepth 100000 in
set_option maxHeartbeats 4000000 in
theorem bX0_with_61 {X : Xt} {σf : St} {r : Nat} (hX1 : X.2.2.1 = σf) (hX2 : X.2.2.2 = .inl (some (rv r))) {σ : St} {y0 : Nat} {y1 : Nat} {y2 : Nat} {y3 : Nat} (hf : fX0_with_61 σ y0 y1 y2 y3 = some (σf, r)) : G MtX0_with X σ 61 [] [rv y3, rv y2, rv y1, rv y0] := by
  unfold fX0_with_61 at hf
  obtain ⟨_, h3, hf⟩ := ob hf
  obtain ⟨σ1, v2, eσ1, hf⟩ := cb_el hf
  refine g_callI dX0_with_61 (wX0_init _ eσ1) (okX0_init _ (by decide) (by decide)) rfl (by rw [ckK_el h3]; decide) rfl t_1600 t_331 rfl (Nat.le_trans (cat_le _) (Nat.le_of_ble_eq_true rfl)) rfl ?_
  refine g_astore_n (i := 3) (L' := [(3, rv y0)]) dX0_with_64 rfl (Nat.le_of_ble_eq_true rfl) rfl ?_
  refine g_aload_n (j := 0) dX0_with_65 rfl rfl ?_
  obtain ⟨_, h6, hf⟩ := ob hf
  obtain ⟨σ4, v5, eσ4, hf⟩ := cb_el hf
  refine g_callV_v dX0_with_66 (wX0_weave _ eσ4) (okX0_weave _ (by decide) (by decide)) (ckK_el h6) hc4 t_1601 t_1603 s_X0_weave rfl (Nat.le_trans (cat_le _) (Nat.le_of_ble_eq_true rfl)) rfl ?_
  refine g_aload_n (j := 0) dX0_with_69 rfl rfl ?_
  exact g_aret dX0_with_70 rfl rfl hX2 hX1 hf

set_option maxRecDepth 100000 in
set_option maxHeartbeats 4000000 in
theorem bX0_with_42 {X : Xt} {σf : St} {r : Nat} (hX1 : X.2.2.1 = σf) (hX2 : X.2.2.2 = .inl (some (rv r))) {σ : St} {x0 : Nat} {x1 : Nat} {x2 : Int32} {y0 : Nat} {y1 : Nat} {y2 : Nat} (hf : fX0_with_42 σ x0 x1 x2 y0 y1 y2 = some (σf, r)) : G MtX0_with X σ 42 [(0, rv x0), (1, rv x1), (2, .int x2)] [rv y2, rv y1, rv y0] := by
  unfold fX0_with_42 at hf
  refine g_iload_n (j := 2) dX0_with_42 rfl rfl ?_
  refine g_if_eq (tgt := 57) dX0_with_43 (by decide) (fun c1 => ?_) (fun c1 => ?_)
  · rw [if_pos c1] at hf
    refine g_aload_n (j := 0) dX0_with_57 rfl rfl ?_
    obtain ⟨v2, ev2, hf⟩ := ob hf
    refine g_getF dX0_with_58 ev2 t_336 hin4 hc4 (by decide) rfl ?_
    refine g_sub (L' := []) [] rfl ?_
    exact bX0_with_61 hX1 hX2 hf
  · rw [if_neg c1] at hf
    refine g_aload_n (j := 0) dX0_with_46 rfl rfl ?_
    obtain ⟨v3, ev3, hf⟩ := ob hf
    refine g_getF dX0_with_47 ev3 t_336 hin4 hc4 (by decide) rfl ?_
    refine g_aload_n (j := 1) dX0_with_50 rfl rfl ?_
    obtain ⟨σ4, a5, eσ4, hf⟩ := cb_el hf
    refine g_callS_q dX0_with_51 (wX0_placed _ eσ4) (okX0_placed _ (by decide) (by decide)) t_1591 t_1592 rfl (Nat.le_trans (cat_le _) (Nat.le_of_ble_eq_true rfl)) rfl ?_
    refine g_goto (tgt := 61) dX0_with_54 (by decide) ?_
    refine g_sub (L' := []) [] rfl ?_
    exact bX0_with_61 hX1 hX2 hf

set_option maxRecDepth 100000 in
set_option maxHeartbeats 4000000 in
theorem bX0_with_12 {X : Xt} {σf : St} {r : Nat} (hX1 : X.2.2.1 = σf) (hX2 : X.2.2.2 = .inl (some (rv r))) {σ : St} {x0 : Nat} {x1 : Nat} {y0 : Int32} (hf : fX0_with_12 σ x0 x1 y0 = some (σf, r)) : G MtX0_with X σ 12 [(0, rv x0), (1, rv x1)] [.int y0] := by
  unfold fX0_with_12 at hf
  refine g_istore_n (i := 2) (L' := [(2, .int y0), (0, rv x0), (1, rv x1)]) dX0_with_12 rfl (Nat.le_of_ble_eq_true rfl) (by simp [rv_cat]) ?_
  obtain ⟨σ1, eσ1, hf⟩ := nm_el hf
  obtain ⟨a2, ea2, hf⟩ := nm_el hf
  refine g_new9 dX0_with_13 hc4 hin4 hty4 hdf4 t_1585 t_327 t_13 eσ1 ea2 ?_
  refine g_dup dX0_with_16 (rv_cat _) ?_
  refine g_iload_n (j := 0) dX0_with_17 rfl rfl ?_
  refine g_if_eq (tgt := 34) dX0_with_18 (by decide) (fun c3 => ?_) (fun c3 => ?_)
  · rw [if_pos c3] at hf
    refine g_aload_n (j := 1) dX0_with_34 rfl rfl ?_
    obtain ⟨v4, ev4, hf⟩ := ob hf
    refine g_getF dX0_with_35 ev4 t_334 hin4 hc4 (by decide) rfl ?_
    refine g_aload_n (j := 2) dX0_with_38 rfl rfl ?_
    obtain ⟨σ5, a6, eσ5, hf⟩ := cb_el hf
    refine g_callS_q dX0_with_39 (wX0_placed _ eσ5) (okX0_placed _ (by decide) (by decide)) t_1591 t_1592 rfl (Nat.le_trans (cat_le _) (Nat.le_of_ble_eq_true rfl)) rfl ?_
    refine g_sub (L' := [(0, rv x0), (1, rv x1), (2, .int y0)]) [1, 2, 0] rfl ?_
    exact bX0_with_42 hX1 hX2 hf
  · rw [if_neg c3] at hf
    refine g_aload_n (j := 1) dX0_with_21 rfl rfl ?_
    obtain ⟨v7, ev7, hf⟩ := ob hf
    refine g_getF dX0_with_22 ev7 t_334 hin4 hc4 (by decide) rfl ?_
    obtain ⟨σ8, eσ8, hf⟩ := ob hf
    obtain ⟨a9, ea9, hf⟩ := nm_el hf
    refine g_clone9 dX0_with_25 eσ8 (by decide) (by decide) t_1586 t_1587 t_517 t_518 t_1588 t_1589 (by decide) (by decide) (by decide) (Nat.le_of_ble_eq_true rfl) ea9 ?_
    obtain ⟨_, h10, hf⟩ := ob hf
    refine g_castA (ti := 8) dX0_with_28 h10 (by decide) (by decide) t_1590 (by decide) ?_
    refine g_goto (tgt := 42) dX0_with_31 (by decide) ?_
    refine g_sub (L' := [(0, rv x0), (1, rv x1), (2, .int y0)]) [1, 2, 0] rfl ?_
    exact bX0_with_42 hX1 hX2 hf

set_option maxRecDepth 100000 in
set_option maxHeartbeats 4000000 in
theorem wX0_with (l : Launch) {σ σf : St} {x0 : Nat} {x1 : Nat} {r : Nat} (hf : fX0_with σ x0 x1 = some (σf, r)) : Con MtX0_with yX0_with l σ [rv x0, rv x1] σf (some (rv r)) := by
  refine Con.of (by decide +kernel) rfl (fun h => absurd (show false = true from h) (by decide)) (by simp only [sl_n, sl_r, sl_i, sl_l]; exact Nat.le_of_ble_eq_true rfl) ?_
  rw [show lv_args 0 [rv x0, rv x1] = [(0, rv x0), (1, rv x1)] by simp only [la_n, la_r, la_i, la_l] <;> rfl]
  have hX1 : ((l, σ, σf, .inl (some (rv r))) : Xt).2.2.1 = σf := rfl
  have hX2 : ((l, σ, σf, .inl (some (rv r))) : Xt).2.2.2 = .inl (some (rv r)) := rfl
  unfold fX0_with at hf
  refine g_aload_n (j := 1) dX0_with_0 rfl rfl ?_
  obtain ⟨v1, ev1, hf⟩ := ob hf
  refine g_getIN dX0_with_1 ev1 t_1562 hin14 hc14 (by decide) rfl ?_
  refine g_if_le (tgt := 11) dX0_with_4 (by decide) (fun c2 => ?_) (fun c2 => ?_)
  · rw [if_pos c2] at hf
    refine g_iconst (v := 0) dX0_with_11 (by decide) ?_
    exact bX0_with_12 hX1 hX2 hf
  · rw [if_neg c2] at hf
    refine g_iconst (v := 1) dX0_with_7 (by decide) ?_
    refine g_goto (tgt := 12) dX0_with_8 (by decide) ?_
    exact bX0_with_12 hX1 hX2 hf

theorem okX0_with (M : Mt) (h1 : 4 + 1 ≤ M.2.2.2.2.1) (h2 : 8 + (4 + 11) + 154 ≤ M.2.2.2.2.2.1) : CallOk M MtX0_with yX0_with 1 := ⟨t_1584, h1, h2, ⟨by decide, by decide⟩, by decide +kernel, t_13⟩
abbrev MtX0_usersOf : Mt := (cX0_usersOf, 4, "ExactlySaid$Book", (Option.some Jvm.ClassFile.FieldType.int), 2, 106, false)
set_option maxRecDepth 100000 in
set_option maxHeartbeats 4000000 in
theorem bX0_usersOf_33 {X : Xt} {σf : St} {r : Int32} (hX1 : X.2.2.1 = σf) (hX2 : X.2.2.2 = .inl (some (.int r))) {k4 : St → Nat → Int32 → Int32 → Int32 → Option (St × Int32)} (hk4 : ∀ (σ : St) (x0 : Nat) (x1 : Int32) (x2 : Int32) (x3 : Int32), k4 σ x0 x1 x2 x3 = some (σf, r) → G MtX0_usersOf X σ 4 [(0, rv x0), (1, .int x1), (2, .int x2), (3, .int x3)] []) {σ : St} {x0 : Nat} {x1 : Int32} {x2 : Int32} {x3 : Int32} (hf : fX0_usersOf_33 k4 σ x0 x1 x2 x3 = some (σf, r)) : G MtX0_usersOf X σ 33 [(0, rv x0), (1, .int x1), (2, .int x2), (3, .int x3)] [] := by
  unfold fX0_usersOf_33 at hf
  obtain ⟨v1, ev1, hf⟩ := nm_el hf
  refine g_iinc (L' := [(3, .int v1), (0, rv x0), (1, .int x1), (2, .int x2)]) (j := 3) (v := v1) dX0_usersOf_33 rfl (by rw [ev1]; rfl) (Nat.le_of_ble_eq_true rfl) rfl ?_
  refine g_goto (tgt := 4) dX0_usersOf_36 (by decide) ?_
  refine g_sub (L' := [(0, rv x0), (1, .int x1), (2, .int x2), (3, .int v1)]) [1, 2, 3, 0] rfl ?_
  exact hk4 _ _ _ _ _ hf

set_option maxRecDepth 100000 in
set_option maxHeartbeats 4000000 in
theorem bX0_usersOf_4 {X : Xt} {σf : St} {r : Int32} (hX1 : X.2.2.1 = σf) (hX2 : X.2.2.2 = .inl (some (.int r))) : ∀ (n : Nat) (σ : St) (x0 : Nat) (x1 : Int32) (x2 : Int32) (x3 : Int32), fX0_usersOf_4 n σ x0 x1 x2 x3 = some (σf, r) → G MtX0_usersOf X σ 4 [(0, rv x0), (1, .int x1), (2, .int x2), (3, .int x3)] [] := by
  intro n
  induction n with
  | zero => intro σ x0 x1 x2 x3 hf; cases hf
  | succ n ih =>
    intro σ x0 x1 x2 x3 hf
    rw [fX0_usersOf_4] at hf
    refine g_iload_n (j := 3) dX0_usersOf_4 rfl rfl ?_
    refine g_aload_n (j := 0) dX0_usersOf_5 rfl rfl ?_
    obtain ⟨v1, ev1, hf⟩ := ob hf
    refine g_getF dX0_usersOf_6 ev1 t_334 hin4 hc4 (by decide) rfl ?_
    obtain ⟨v2, ev2, hf⟩ := ob hf
    refine g_alen dX0_usersOf_9 ev2 ?_
    refine g_icmp_ge (tgt := 39) dX0_usersOf_10 (by decide) (fun c3 => ?_) (fun c3 => ?_)
    · rw [if_pos c3] at hf
      refine g_iload_n (j := 2) dX0_usersOf_39 rfl rfl ?_
      exact g_iret dX0_usersOf_40 rfl rfl hX2 hX1 hf
    · rw [if_neg c3] at hf
      refine g_iload_n (j := 1) dX0_usersOf_13 rfl rfl ?_
      refine g_iconst (v := (-1)) dX0_usersOf_14 (by decide) ?_
      refine g_icmp_eq (tgt := 39) dX0_usersOf_15 (by decide) (fun c4 => ?_) (fun c4 => ?_)
      · rw [if_pos c4] at hf
        refine g_iload_n (j := 2) dX0_usersOf_39 rfl rfl ?_
        exact g_iret dX0_usersOf_40 rfl rfl hX2 hX1 hf
      · rw [if_neg c4] at hf
        refine g_aload_n (j := 0) dX0_usersOf_18 rfl rfl ?_
        refine g_iload_n (j := 3) dX0_usersOf_19 rfl rfl ?_
        refine g_iload_n (j := 1) dX0_usersOf_20 rfl rfl ?_
        obtain ⟨_, h7, hf⟩ := ob hf
        obtain ⟨σ5, v6, eσ5, hf⟩ := cb_el hf
        refine g_callV_i dX0_usersOf_21 (wX0_isUsing _ eσ5) (okX0_isUsing _ (by decide) (by decide)) (ckK_el h7) hc4 t_987 t_977 s_X0_isUsing rfl (Nat.le_trans (cat_le _) (Nat.le_of_ble_eq_true rfl)) rfl ?_
        refine g_if_eq (tgt := 33) dX0_usersOf_24 (by decide) (fun c8 => ?_) (fun c8 => ?_)
        · rw [if_pos c8] at hf
          exact bX0_usersOf_33 hX1 hX2 (fun σ x0 x1 x2 x3 hf => ih σ x0 x1 x2 x3 hf) hf
        · rw [if_neg c8] at hf
          refine g_iload_n (j := 2) dX0_usersOf_27 rfl rfl ?_
          refine g_iconst (v := 1) dX0_usersOf_28 (by decide) ?_
          refine g_iload_n (j := 3) dX0_usersOf_29 rfl rfl ?_
          refine g_ishl dX0_usersOf_30 ?_
          refine g_ior dX0_usersOf_31 ?_
          obtain ⟨v9, ev9, hf⟩ := nm_el hf
          refine g_topI ev9 ?_
          refine g_istore_n (i := 2) (L' := [(2, .int v9), (0, rv x0), (1, .int x1), (3, .int x3)]) dX0_usersOf_32 rfl (Nat.le_of_ble_eq_true rfl) rfl ?_
          refine g_sub (L' := [(0, rv x0), (1, .int x1), (2, .int v9), (3, .int x3)]) [1, 2, 0, 3] rfl ?_
          exact bX0_usersOf_33 hX1 hX2 (fun σ x0 x1 x2 x3 hf => ih σ x0 x1 x2 x3 hf) hf

set_option maxRecDepth 100000 in
set_option maxHeartbeats 4000000 in
theorem wX0_usersOf (l : Launch) {σ σf : St} {x0 : Nat} {x1 : Int32} {r : Int32} (hf : fX0_usersOf σ x0 x1 = some (σf, r)) : Con MtX0_usersOf yX0_usersOf l σ [rv x0, .int x1] σf (some (.int r)) := by
  refine Con.of (by decide +kernel) rfl (fun h => absurd (show false = true from h) (by decide)) (by simp only [sl_n, sl_r, sl_i, sl_l]; exact Nat.le_of_ble_eq_true rfl) ?_
  rw [show lv_args 0 [rv x0, .int x1] = [(0, rv x0), (1, .int x1)] by simp only [la_n, la_r, la_i, la_l] <;> rfl]
  have hX1 : ((l, σ, σf, .inl (some (.int r))) : Xt).2.2.1 = σf := rfl
  have hX2 : ((l, σ, σf, .inl (some (.int r))) : Xt).2.2.2 = .inl (some (.int r)) := rfl
  unfold fX0_usersOf at hf
  refine g_iconst (v := 0) dX0_usersOf_0 (by decide) ?_
  refine g_istore_n (i := 2) (L' := [(2, .int 0), (0, rv x0), (1, .int x1)]) dX0_usersOf_1 rfl (Nat.le_of_ble_eq_true rfl) rfl ?_
  refine g_iconst (v := 0) dX0_usersOf_2 (by decide) ?_
  refine g_istore_n (i := 3) (L' := [(3, .int 0), (2, .int 0), (0, rv x0), (1, .int x1)]) dX0_usersOf_3 rfl (Nat.le_of_ble_eq_true rfl) rfl ?_
  refine g_sub (L' := [(0, rv x0), (1, .int x1), (2, .int 0), (3, .int 0)]) [2, 3, 1, 0] rfl ?_
  exact bX0_usersOf_4 hX1 hX2 FU _ _ _ _ _ hf

theorem okX0_usersOf (M : Mt) (h1 : 2 + 1 ≤ M.2.2.2.2.1) (h2 : 8 + (4 + 11) + 106 ≤ M.2.2.2.2.2.1) : CallOk M MtX0_usersOf yX0_usersOf 1 := ⟨t_986, h1, h2, ⟨by decide, by decide⟩, by decide +kernel, t_13⟩
abbrev MtX0_firstReady : Mt := (cX0_firstReady, 3, "ExactlySaid$Book", (Option.some Jvm.ClassFile.FieldType.int), 1, 84, false)
set_option maxRecDepth 100000 in
set_option maxHeartbeats 4000000 in
theorem bX0_firstReady_32 {X : Xt} {σf : St} {r : Int32} (hX1 : X.2.2.1 = σf) (hX2 : X.2.2.2 = .inl (some (.int r))) {k2 : St → Nat → Int32 → Int32 → Option (St × Int32)} (hk2 : ∀ (σ : St) (x0 : Nat) (x1 : Int32) (x2 : Int32), k2 σ x0 x1 x2 = some (σf, r) → G MtX0_firstReady X σ 2 [(0, rv x0), (1, .int x1), (2, .int x2)] []) {σ : St} {x0 : Nat} {x1 : Int32} {x2 : Int32} (hf : fX0_firstReady_32 k2 σ x0 x1 x2 = some (σf, r)) : G MtX0_firstReady X σ 32 [(0, rv x0), (1, .int x1), (2, .int x2)] [] := by
  unfold fX0_firstReady_32 at hf
  obtain ⟨v1, ev1, hf⟩ := nm_el hf
  refine g_iinc (L' := [(2, .int v1), (0, rv x0), (1, .int x1)]) (j := 2) (v := v1) dX0_firstReady_32 rfl (by rw [ev1]; rfl) (Nat.le_of_ble_eq_true rfl) rfl ?_
  refine g_goto (tgt := 2) dX0_firstReady_35 (by decide) ?_
  refine g_sub (L' := [(0, rv x0), (1, .int x1), (2, .int v1)]) [1, 2, 0] rfl ?_
  exact hk2 _ _ _ _ hf

set_option maxRecDepth 100000 in
set_option maxHeartbeats 4000000 in
theorem bX0_firstReady_2 {X : Xt} {σf : St} {r : Int32} (hX1 : X.2.2.1 = σf) (hX2 : X.2.2.2 = .inl (some (.int r))) : ∀ (n : Nat) (σ : St) (x0 : Nat) (x1 : Int32) (x2 : Int32), fX0_firstReady_2 n σ x0 x1 x2 = some (σf, r) → G MtX0_firstReady X σ 2 [(0, rv x0), (1, .int x1), (2, .int x2)] [] := by
  intro n
  induction n with
  | zero => intro σ x0 x1 x2 hf; cases hf
  | succ n ih =>
    intro σ x0 x1 x2 hf
    rw [fX0_firstReady_2] at hf
    refine g_iload_n (j := 2) dX0_firstReady_2 rfl rfl ?_
    refine g_aload_n (j := 0) dX0_firstReady_3 rfl rfl ?_
    obtain ⟨v1, ev1, hf⟩ := ob hf
    refine g_getF dX0_firstReady_4 ev1 t_334 hin4 hc4 (by decide) rfl ?_
    obtain ⟨v2, ev2, hf⟩ := ob hf
    refine g_alen dX0_firstReady_7 ev2 ?_
    refine g_icmp_ge (tgt := 38) dX0_firstReady_8 (by decide) (fun c3 => ?_) (fun c3 => ?_)
    · rw [if_pos c3] at hf
      refine g_iconst (v := (-1)) dX0_firstReady_38 (by decide) ?_
      exact g_iret dX0_firstReady_39 rfl rfl hX2 hX1 hf
    · rw [if_neg c3] at hf
      refine g_iload_n (j := 1) dX0_firstReady_11 rfl rfl ?_
      refine g_iload_n (j := 2) dX0_firstReady_12 rfl rfl ?_
      refine g_iushr dX0_firstReady_13 rfl ?_
      refine g_iconst (v := 1) dX0_firstReady_14 (by decide) ?_
      refine g_iand dX0_firstReady_15 ?_
      refine g_if_eq (tgt := 32) dX0_firstReady_16 (by decide) (fun c4 => ?_) (fun c4 => ?_)
      · rw [if_pos c4] at hf
        exact bX0_firstReady_32 hX1 hX2 (fun σ x0 x1 x2 hf => ih σ x0 x1 x2 hf) hf
      · rw [if_neg c4] at hf
        refine g_aload_n (j := 0) dX0_firstReady_19 rfl rfl ?_
        obtain ⟨v5, ev5, hf⟩ := ob hf
        refine g_getF dX0_firstReady_20 ev5 t_339 hin4 hc4 (by decide) rfl ?_
        refine g_iload_n (j := 2) dX0_firstReady_23 rfl rfl ?_
        obtain ⟨v6, ev6, hf⟩ := ob hf
        refine g_iald dX0_firstReady_24 ev6 ?_
        refine g_iload_n (j := 1) dX0_firstReady_25 rfl rfl ?_
        refine g_iand dX0_firstReady_26 ?_
        refine g_if_ne (tgt := 32) dX0_firstReady_27 (by decide) (fun c7 => ?_) (fun c7 => ?_)
        · rw [if_neg c7] at hf
          exact bX0_firstReady_32 hX1 hX2 (fun σ x0 x1 x2 hf => ih σ x0 x1 x2 hf) hf
        · rw [if_pos c7] at hf
          refine g_iload_n (j := 2) dX0_firstReady_30 rfl rfl ?_
          exact g_iret dX0_firstReady_31 rfl rfl hX2 hX1 hf

set_option maxRecDepth 100000 in
set_option maxHeartbeats 4000000 in
theorem wX0_firstReady (l : Launch) {σ σf : St} {x0 : Nat} {x1 : Int32} {r : Int32} (hf : fX0_firstReady σ x0 x1 = some (σf, r)) : Con MtX0_firstReady yX0_firstReady l σ [rv x0, .int x1] σf (some (.int r)) := by
  refine Con.of (by decide +kernel) rfl (fun h => absurd (show false = true from h) (by decide)) (by simp only [sl_n, sl_r, sl_i, sl_l]; exact Nat.le_of_ble_eq_true rfl) ?_
  rw [show lv_args 0 [rv x0, .int x1] = [(0, rv x0), (1, .int x1)] by simp only [la_n, la_r, la_i, la_l] <;> rfl]
  have hX1 : ((l, σ, σf, .inl (some (.int r))) : Xt).2.2.1 = σf := rfl
  have hX2 : ((l, σ, σf, .inl (some (.int r))) : Xt).2.2.2 = .inl (some (.int r)) := rfl
  unfold fX0_firstReady at hf
  refine g_iconst (v := 0) dX0_firstReady_0 (by decide) ?_
  refine g_istore_n (i := 2) (L' := [(2, .int 0), (0, rv x0), (1, .int x1)]) dX0_firstReady_1 rfl (Nat.le_of_ble_eq_true rfl) rfl ?_
  refine g_sub (L' := [(0, rv x0), (1, .int x1), (2, .int 0)]) [1, 2, 0] rfl ?_
  exact bX0_firstReady_2 hX1 hX2 FU _ _ _ _ hf

theorem okX0_firstReady (M : Mt) (h1 : 1 + 1 ≤ M.2.2.2.2.1) (h2 : 8 + (3 + 11) + 84 ≤ M.2.2.2.2.2.1) : CallOk M MtX0_firstReady yX0_firstReady 1 := ⟨t_1609, h1, h2, ⟨by decide, by decide⟩, by decide +kernel, t_13⟩
abbrev MtX11_bookWith : Mt := (cX11_bookWith, 8, "ExactlySaid", (Option.some (Jvm.ClassFile.FieldType.object "ExactlySaid$Book")), 8, 304, false)
set_option maxRecDepth 100000 in
set_option maxHeartbeats 4000000 in
theorem bX11_bookWith_68 {X : Xt} {σf : St} {r : Nat} (hX1 : X.2.2.1 = σf) (hX2 : X.2.2.2 = .inl (some (rv r))) : ∀ (n : Nat) (σ : St) (x0 : Nat) (x3 : Nat) (x4 : Int32) (x5 : Int32), fX11_bookWith_68 n σ x0 x3 x4 x5 = some (σf, r) → G MtX11_bookWith X σ 68 [(0, rv x0), (3, rv x3), (4, .int x4), (5, .int x5)] [] := by
  intro n
  induction n with
  | zero => intro σ x0 x3 x4 x5 hf; cases hf
  | succ n ih =>
    intro σ x0 x3 x4 x5 hf
    rw [fX11_bookWith_68] at hf
    refine g_iload (j := 3) dX11_bookWith_68 rfl ?_
    refine g_bipush (v := 20) dX11_bookWith_70 (by decide) ?_
    refine g_icmp_ge (tgt := 198) dX11_bookWith_72 (by decide) (fun c1 => ?_) (fun c1 => ?_)
    · rw [if_pos c1] at hf
      refine g_aload_n (j := 1) dX11_bookWith_198 rfl rfl ?_
      exact g_aret dX11_bookWith_199 rfl rfl hX2 hX1 hf
    · rw [if_neg c1] at hf
      refine g_iload (j := 2) dX11_bookWith_75 rfl ?_
      refine g_if_eq (tgt := 198) dX11_bookWith_77 (by decide) (fun c2 => ?_) (fun c2 => ?_)
      · rw [if_pos c2] at hf
        refine g_aload_n (j := 1) dX11_bookWith_198 rfl rfl ?_
        exact g_aret dX11_bookWith_199 rfl rfl hX2 hX1 hf
      · rw [if_neg c2] at hf
        refine g_aload_n (j := 1) dX11_bookWith_80 rfl rfl ?_
        refine g_iload (j := 2) dX11_bookWith_81 rfl ?_
        obtain ⟨_, h5, hf⟩ := ob hf
        obtain ⟨σ3, v4, eσ3, hf⟩ := cb_el hf
        refine g_callVN_i dX11_bookWith_83 (wX0_firstReady _ eσ3) (okX0_firstReady _ (by decide) (by decide)) (ckK_el h5) hc4 t_1606 t_1608 s_X0_firstReady rfl (Nat.le_trans (cat_le _) (Nat.le_of_ble_eq_true rfl)) rfl ?_
        refine g_istore (i := 6) (L' := [(6, .int v4), (0, rv x0), (3, rv x3), (4, .int x4), (5, .int x5)]) dX11_bookWith_86 (Nat.le_of_ble_eq_true rfl) rfl ?_
        refine g_aload_n (j := 2) dX11_bookWith_88 rfl rfl ?_
        refine g_iload (j := 0) dX11_bookWith_89 rfl ?_
        obtain ⟨_, h8, hf⟩ := ob hf
        obtain ⟨σ6, a7, eσ6, hf⟩ := cb_el hf
        refine g_callVN_q dX11_bookWith_91 (wX0_toldAt _ eσ6) (okX0_toldAt _ (by decide) (by decide)) (ckK_el h8) hc4 t_1610 t_1134 s_X0_toldAt rfl (Nat.le_trans (cat_le _) (Nat.le_of_ble_eq_true rfl)) rfl ?_
        refine g_astore (i := 7) (L' := [(7, rv a7), (6, .int v4), (0, rv x0), (3, rv x3), (4, .int x4), (5, .int x5)]) dX11_bookWith_94 (Nat.le_of_ble_eq_true rfl) rfl ?_
        refine g_aload (j := 0) dX11_bookWith_96 rfl ?_
        refine g_ifnonnull (tgt := 103) dX11_bookWith_98 (by decide) (fun c9 => ?_) (fun c9 => ?_)
        · rw [if_neg c9] at hf
          refine g_aload_n (j := 2) dX11_bookWith_103 rfl rfl ?_
          obtain ⟨v10, ev10, hf⟩ := ob hf
          refine g_getF dX11_bookWith_104 ev10 t_393 hin15 hc15 (by decide) rfl ?_
          refine g_aload (j := 0) dX11_bookWith_107 rfl ?_
          obtain ⟨v11, ev11, hf⟩ := ob hf
          refine g_getFN dX11_bookWith_109 ev11 t_1568 hin14 hc14 (by decide) rfl ?_
          refine g_aload_n (j := 3) dX11_bookWith_112 rfl rfl ?_
          refine g_null dX11_bookWith_113 ?_
          refine g_aload_n (j := 2) dX11_bookWith_114 rfl rfl ?_
          obtain ⟨v12, ev12, hf⟩ := ob hf
          refine g_getF dX11_bookWith_115 ev12 t_391 hin15 hc15 (by decide) rfl ?_
          obtain ⟨_, h15, hf⟩ := ob hf
          obtain ⟨σ13, v14, eσ13, hf⟩ := cb_el hf
          refine g_callVN_i dX11_bookWith_118 (wX2_work _ eσ13) (okX2_work _ (by decide) (by decide)) (ckK_el h15) hc6 t_1103 t_1105 s_X2_work rfl (Nat.le_trans (cat_le _) (Nat.le_of_ble_eq_true rfl)) rfl ?_
          refine g_if_eq (tgt := 142) dX11_bookWith_121 (by decide) (fun c16 => ?_) (fun c16 => ?_)
          · rw [if_pos c16] at hf
            refine g_aload_n (j := 3) dX11_bookWith_142 rfl rfl ?_
            obtain ⟨v17, ev17, hf⟩ := ob hf
            refine g_getFN dX11_bookWith_143 ev17 t_335 hin4 hc4 (by decide) rfl ?_
            refine g_iload (j := 1) dX11_bookWith_146 rfl ?_
            obtain ⟨σ18, eσ18, hf⟩ := nm_el hf
            obtain ⟨a19, ea19, hf⟩ := nm_el hf
            refine g_new9 dX11_bookWith_148 hc14 hin14 hty14 hdf14 t_1552 t_1553 t_26 eσ18 ea19 ?_
            refine g_dup dX11_bookWith_151 (rv_cat _) ?_
            refine g_aload (j := 0) dX11_bookWith_152 rfl ?_
            obtain ⟨v20, ev20, hf⟩ := ob hf
            refine g_getIN dX11_bookWith_154 ev20 t_1560 hin14 hc14 (by decide) rfl ?_
            refine g_iconst (v := 0) dX11_bookWith_157 (by decide) ?_
            refine g_aload (j := 0) dX11_bookWith_158 rfl ?_
            obtain ⟨v21, ev21, hf⟩ := ob hf
            refine g_getFN dX11_bookWith_160 ev21 t_1568 hin14 hc14 (by decide) rfl ?_
            obtain ⟨σ22, eσ22, hf⟩ := nm_el hf
            obtain ⟨a23, ea23, hf⟩ := nm_el hf
            refine g_new9 dX11_bookWith_163 hc5 hin5 hty5 hdf5 t_44 t_45 t_2 eσ22 ea23 ?_
            refine g_dup dX11_bookWith_166 (rv_cat _) ?_
            refine g_aload_n (j := 2) dX11_bookWith_167 rfl rfl ?_
            obtain ⟨v24, ev24, hf⟩ := ob hf
            refine g_getF dX11_bookWith_168 ev24 t_393 hin15 hc15 (by decide) rfl ?_
            obtain ⟨v25, ev25, hf⟩ := ob hf
            refine g_getFN dX11_bookWith_171 ev25 t_301 hin6 hc6 (by decide) rfl ?_
            obtain ⟨_, h28, hf⟩ := ob hf
            obtain ⟨σ26, v27, eσ26, hf⟩ := cb_el hf
            refine g_callIN dX11_bookWith_174 (wX1_init_ _ eσ26) (okX1_init_ _ (by decide) (by decide)) rfl (by rw [ckK_el h28]; decide) rfl t_1544 t_1545 rfl (by simp only [List.map_cons, List.map_nil, rv_cat, show ∀ x : Int32, (Value.int x).category = 1 from fun _ => rfl, show ∀ x : Int64, (Value.long x).category = 2 from fun _ => rfl]; decide) rfl ?_
            obtain ⟨_, h31, hf⟩ := ob hf
            obtain ⟨σ29, v30, eσ29, hf⟩ := cb_el hf
            refine g_callIN dX11_bookWith_177 (wX10_init _ eσ29) (okX10_init _ (by decide) (by decide)) rfl (by rw [ckK_el h31]; decide) rfl t_1554 t_1555 rfl (Nat.le_trans (cat_le _) (Nat.le_of_ble_eq_true rfl)) rfl ?_
            obtain ⟨σ32, eσ32, hf⟩ := ob hf
            refine g_aast dX11_bookWith_180 (by decide) rfl hc14 eσ32 ?_
            refine g_iload (j := 4) dX11_bookWith_181 rfl ?_
            refine g_iconst (v := 1) dX11_bookWith_183 (by decide) ?_
            refine g_iload (j := 1) dX11_bookWith_184 rfl ?_
            refine g_ishl dX11_bookWith_186 ?_
            refine g_iconst (v := (-1)) dX11_bookWith_187 (by decide) ?_
            refine g_ixor dX11_bookWith_188 ?_
            refine g_iand dX11_bookWith_189 ?_
            obtain ⟨v33, ev33, hf⟩ := nm_el hf
            refine g_topI ev33 ?_
            refine g_istore (i := 4) (L' := [(4, .int v33), (7, rv a7), (6, .int v4), (0, rv x0), (3, rv x3), (5, .int x5)]) dX11_bookWith_190 (Nat.le_of_ble_eq_true rfl) (by simp [rv_cat]) ?_
            obtain ⟨v34, ev34, hf⟩ := nm_el hf
            refine g_iinc (L' := [(5, .int v34), (4, .int v33), (7, rv a7), (6, .int v4), (0, rv x0), (3, rv x3)]) (j := 5) (v := v34) dX11_bookWith_192 rfl (by rw [ev34]; rfl) (Nat.le_of_ble_eq_true rfl) rfl ?_
            refine g_goto (tgt := 68) dX11_bookWith_195 (by decide) ?_
            refine g_sub (L' := [(0, rv x0), (3, rv x3), (4, .int v33), (5, .int v34)]) [4, 5, 1, 0] rfl ?_
            exact ih _ _ _ _ _ hf
          · rw [if_neg c16] at hf
            refine g_aload_n (j := 2) dX11_bookWith_124 rfl rfl ?_
            refine g_bipush (v := 9) dX11_bookWith_125 (by decide) ?_
            refine g_iconst (v := 0) dX11_bookWith_127 (by decide) ?_
            obtain ⟨_, h37, hf⟩ := ob hf
            obtain ⟨σ35, v36, eσ35, hf⟩ := cb_el hf
            refine g_callV_v dX11_bookWith_128 (wX11_refuse _ eσ35) (okX11_refuse _ (by decide) (by decide)) (ckK_el h37) hc15 t_1492 t_1494 s_X11_refuse rfl (Nat.le_trans (cat_le _) (Nat.le_of_ble_eq_true rfl)) rfl ?_
            refine g_aload_n (j := 2) dX11_bookWith_131 rfl rfl ?_
            refine g_aload (j := 0) dX11_bookWith_132 rfl ?_
            obtain ⟨v38, ev38, hf⟩ := ob hf
            refine g_getIN dX11_bookWith_134 ev38 t_1560 hin14 hc14 (by decide) rfl ?_
            obtain ⟨σ39, eσ39, hf⟩ := ob hf
            refine g_putI dX11_bookWith_137 eσ39 (Or.inl t_380) hin15 hc15 (by decide) hty15 hnm15 (Or.inl rfl) rfl rfl rfl ?_
            refine g_null dX11_bookWith_140 ?_
            exact g_aret dX11_bookWith_141 rfl rfl hX2 hX1 hf
        · rw [if_pos c9] at hf
          refine g_null dX11_bookWith_101 ?_
          exact g_aret dX11_bookWith_102 rfl rfl hX2 hX1 hf

set_option maxRecDepth 100000 in
set_option maxHeartbeats 4000000 in
theorem bX11_bookWith_57 {X : Xt} {σf : St} {r : Nat} (hX1 : X.2.2.1 = σf) (hX2 : X.2.2.2 = .inl (some (rv r))) {σ : St} {x0 : Nat} {x3 : Nat} {y0 : Nat} {y1 : Nat} {y2 : Int32} {y3 : Int32} (hf : fX11_bookWith_57 σ x0 x3 y0 y1 y2 y3 = some (σf, r)) : G MtX11_bookWith X σ 57 [(0, rv x0), (3, rv x3)] [.int y3, .int y2, rv y1, rv y0] := by
  unfold fX11_bookWith_57 at hf
  obtain ⟨_, h3, hf⟩ := ob hf
  obtain ⟨σ1, v2, eσ1, hf⟩ := cb_el hf
  refine g_callVN_i dX11_bookWith_57 (wX0_find _ eσ1) (okX0_find _ (by decide) (by decide)) (ckK_el h3) hc4 t_971 t_973 s_X0_find rfl (Nat.le_trans (cat_le _) (Nat.le_of_ble_eq_true rfl)) rfl ?_
  obtain ⟨_, h6, hf⟩ := ob hf
  obtain ⟨σ4, v5, eσ4, hf⟩ := cb_el hf
  refine g_callVN_i dX11_bookWith_60 (wX0_usersOf _ eσ4) (okX0_usersOf _ (by decide) (by decide)) (ckK_el h6) hc4 t_983 t_985 s_X0_usersOf rfl (Nat.le_trans (cat_le _) (Nat.le_of_ble_eq_true rfl)) rfl ?_
  refine g_istore (i := 4) (L' := [(4, .int v5), (0, rv x0), (3, rv x3)]) dX11_bookWith_63 (Nat.le_of_ble_eq_true rfl) (by simp [rv_cat]) ?_
  refine g_iconst (v := 0) dX11_bookWith_65 (by decide) ?_
  refine g_istore (i := 5) (L' := [(5, .int 0), (4, .int v5), (0, rv x0), (3, rv x3)]) dX11_bookWith_66 (Nat.le_of_ble_eq_true rfl) rfl ?_
  refine g_sub (L' := [(0, rv x0), (3, rv x3), (4, .int v5), (5, .int 0)]) [2, 3, 1, 0] rfl ?_
  exact bX11_bookWith_68 hX1 hX2 FU _ _ _ _ _ hf

set_option maxRecDepth 100000 in
set_option maxHeartbeats 4000000 in
theorem wX11_bookWith (l : Launch) {σ σf : St} {x0 : Nat} {x1 : Nat} {r : Nat} (hf : fX11_bookWith σ x0 x1 = some (σf, r)) : Con MtX11_bookWith yX11_bookWith l σ [rv x0, rv x1] σf (some (rv r)) := by
  refine Con.of (by decide +kernel) rfl (fun h => absurd (show false = true from h) (by decide)) (by simp only [sl_n, sl_r, sl_i, sl_l]; exact Nat.le_of_ble_eq_true rfl) ?_
  rw [show lv_args 0 [rv x0, rv x1] = [(0, rv x0), (1, rv x1)] by simp only [la_n, la_r, la_i, la_l] <;> rfl]
  have hX1 : ((l, σ, σf, .inl (some (rv r))) : Xt).2.2.1 = σf := rfl
  have hX2 : ((l, σ, σf, .inl (some (rv r))) : Xt).2.2.2 = .inl (some (rv r)) := rfl
  unfold fX11_bookWith at hf
  obtain ⟨σ1, eσ1, hf⟩ := nm_el hf
  obtain ⟨a2, ea2, hf⟩ := nm_el hf
  refine g_new9 dX11_bookWith_0 hc14 hin14 hty14 hdf14 t_1552 t_1553 t_26 eσ1 ea2 ?_
  refine g_dup dX11_bookWith_3 (rv_cat _) ?_
  refine g_aload_n (j := 0) dX11_bookWith_4 rfl rfl ?_
  obtain ⟨v3, ev3, hf⟩ := ob hf
  refine g_getF dX11_bookWith_5 ev3 t_392 hin15 hc15 (by decide) rfl ?_
  obtain ⟨v4, ev4, hf⟩ := ob hf
  refine g_getIN dX11_bookWith_8 ev4 t_233 hin8 hc8 (by decide) rfl ?_
  refine g_aload_n (j := 0) dX11_bookWith_11 rfl rfl ?_
  obtain ⟨v5, ev5, hf⟩ := ob hf
  refine g_getF dX11_bookWith_12 ev5 t_392 hin15 hc15 (by decide) rfl ?_
  obtain ⟨v6, ev6, hf⟩ := ob hf
  refine g_getIN dX11_bookWith_15 ev6 t_239 hin8 hc8 (by decide) rfl ?_
  refine g_aload_n (j := 0) dX11_bookWith_18 rfl rfl ?_
  obtain ⟨v7, ev7, hf⟩ := ob hf
  refine g_getF dX11_bookWith_19 ev7 t_392 hin15 hc15 (by decide) rfl ?_
  obtain ⟨v8, ev8, hf⟩ := ob hf
  refine g_getFN dX11_bookWith_22 ev8 t_241 hin8 hc8 (by decide) rfl ?_
  refine g_aload_n (j := 1) dX11_bookWith_25 rfl rfl ?_
  obtain ⟨_, h11, hf⟩ := ob hf
  obtain ⟨σ9, v10, eσ9, hf⟩ := cb_el hf
  refine g_callIN dX11_bookWith_26 (wX10_init _ eσ9) (okX10_init _ (by decide) (by decide)) rfl (by rw [ckK_el h11]; decide) rfl t_1554 t_1555 rfl (Nat.le_trans (cat_le _) (Nat.le_of_ble_eq_true rfl)) rfl ?_
  refine g_astore_n (i := 2) (L' := [(2, rv a2), (0, rv x0), (1, rv x1)]) dX11_bookWith_29 rfl (Nat.le_of_ble_eq_true rfl) (by simp [rv_cat]) ?_
  refine g_aload_n (j := 1) dX11_bookWith_30 rfl rfl ?_
  obtain ⟨_, h14, hf⟩ := ob hf
  obtain ⟨σ12, a13, eσ12, hf⟩ := cb_el hf
  refine g_callV_q dX11_bookWith_31 (wX11_present _ eσ12) (okX11_present _ (by decide) (by decide)) (ckK_el h14) hc15 t_959 t_961 s_X11_present rfl (Nat.le_trans (cat_le _) (Nat.le_of_ble_eq_true rfl)) rfl ?_
  obtain ⟨v15, ev15, hf⟩ := ob hf
  refine g_getFN dX11_bookWith_34 ev15 t_367 hin11 hc11 (by decide) rfl ?_
  refine g_aload_n (j := 0) dX11_bookWith_37 rfl rfl ?_
  obtain ⟨_, h18, hf⟩ := ob hf
  obtain ⟨σ16, a17, eσ16, hf⟩ := cb_el hf
  refine g_callVN_q dX11_bookWith_38 (wX0_with _ eσ16) (okX0_with _ (by decide) (by decide)) (ckK_el h18) hc4 t_1581 t_1583 s_X0_with rfl (Nat.le_trans (cat_le _) (Nat.le_of_ble_eq_true rfl)) rfl ?_
  refine g_astore_n (i := 3) (L' := [(3, rv a17), (2, rv a2), (0, rv x0), (1, rv x1)]) dX11_bookWith_41 rfl (Nat.le_of_ble_eq_true rfl) (by simp [rv_cat]) ?_
  refine g_aload_n (j := 0) dX11_bookWith_42 rfl rfl ?_
  refine g_aload_n (j := 0) dX11_bookWith_43 rfl rfl ?_
  refine g_aload_n (j := 1) dX11_bookWith_44 rfl rfl ?_
  obtain ⟨v19, ev19, hf⟩ := ob hf
  refine g_getIN dX11_bookWith_45 ev19 t_1560 hin14 hc14 (by decide) rfl ?_
  refine g_aload_n (j := 3) dX11_bookWith_48 rfl rfl ?_
  refine g_ifnonnull (tgt := 56) dX11_bookWith_49 (by decide) (fun c20 => ?_) (fun c20 => ?_)
  · rw [if_neg c20] at hf
    refine g_iconst (v := 0) dX11_bookWith_56 (by decide) ?_
    refine g_sub (L' := [(0, rv x0), (3, rv a17)]) [2, 0] rfl ?_
    exact bX11_bookWith_57 hX1 hX2 hf
  · rw [if_pos c20] at hf
    refine g_iconst (v := 1) dX11_bookWith_52 (by decide) ?_
    refine g_goto (tgt := 57) dX11_bookWith_53 (by decide) ?_
    refine g_sub (L' := [(0, rv x0), (3, rv a17)]) [2, 0] rfl ?_
    exact bX11_bookWith_57 hX1 hX2 hf

theorem okX11_bookWith (M : Mt) (h1 : 8 + 1 ≤ M.2.2.2.2.1) (h2 : 8 + (8 + 11) + 304 ≤ M.2.2.2.2.2.1) : CallOk M MtX11_bookWith yX11_bookWith 1 := ⟨t_1551, h1, h2, ⟨by decide, by decide⟩, by decide +kernel, t_1⟩
abbrev MtX7_init_ : Mt := (cX7_init_, 3, "ExactlySaid$State", none, 1, 84, true)
set_option maxRecDepth 100000 in
set_option maxHeartbeats 4000000 in
theorem wX7_init_ (l : Launch) {σ σf : St} {x0 : Nat} {x1 : Nat} {x2 : Nat} {r : Unit} (hf : fX7_init_ σ x0 x1 x2 = some (σf, r)) : Con MtX7_init_ yX7_init_ l σ [rv x0, rv x1, rv x2] σf (none) := by
  refine Con.of (by decide +kernel) rfl (fun _ => rfl) (by simp only [sl_n, sl_r, sl_i, sl_l]; exact Nat.le_of_ble_eq_true rfl) ?_
  rw [show lv_args 0 [rv x0, rv x1, rv x2] = [(0, rv x0), (1, rv x1), (2, rv x2)] by simp only [la_n, la_r, la_i, la_l] <;> rfl]
  have hX1 : ((l, σ, σf, .inl (none)) : Xt).2.2.1 = σf := rfl
  have hX2 : ((l, σ, σf, .inl (none)) : Xt).2.2.2 = .inl (none) := rfl
  unfold fX7_init_ at hf
  refine g_aload_n (j := 0) dX7_init__0 rfl rfl ?_
  obtain ⟨_, h1, hf⟩ := ob hf
  refine g_objInit dX7_init__1 (of_decide_eq_true (ckP_el h1)) t_325 t_42 t_43 (by decide) (by decide) (Nat.le_of_ble_eq_true rfl) ?_
  refine g_aload_n (j := 0) dX7_init__4 rfl rfl ?_
  refine g_aload_n (j := 1) dX7_init__5 rfl rfl ?_
  obtain ⟨σ2, eσ2, hf⟩ := ob hf
  refine g_putF dX7_init__6 eσ2 (Or.inl t_366) hin11 hc11 (by decide) hty11 hnm11 (Or.inr ⟨rfl, rfl, t_366⟩) rfl ?_
  refine g_aload_n (j := 0) dX7_init__9 rfl rfl ?_
  refine g_aload_n (j := 2) dX7_init__10 rfl rfl ?_
  obtain ⟨σ3, eσ3, hf⟩ := ob hf
  refine g_putF dX7_init__11 eσ3 (Or.inl t_368) hin11 hc11 (by decide) hty11 hnm11 (Or.inr ⟨rfl, rfl, t_368⟩) rfl ?_
  exact g_vret dX7_init__14 rfl hX2 hX1 hf

theorem okX7_init_ (M : Mt) (h1 : 1 + 1 ≤ M.2.2.2.2.1) (h2 : 8 + (3 + 11) + 84 ≤ M.2.2.2.2.2.1) : CallOk M MtX7_init_ yX7_init_ 2 := ⟨t_1613, h1, h2, ⟨by decide, by decide⟩, by decide +kernel, t_12⟩
abbrev MtX11_change : Mt := (cX11_change, 3, "ExactlySaid", none, 1, 84, false)
set_option maxRecDepth 100000 in
set_option maxHeartbeats 4000000 in
theorem bX11_change_56 {X : Xt} {σf : St} {r : Unit} (hX1 : X.2.2.1 = σf) (hX2 : X.2.2.2 = .inl (none)) {σ : St} {x0 : Nat} {x1 : Nat} (hf : fX11_change_56 σ x0 x1 = some (σf, r)) : G MtX11_change X σ 56 [(0, rv x0), (1, rv x1)] [] := by
  unfold fX11_change_56 at hf
  refine g_aload_n (j := 0) dX11_change_56 rfl rfl ?_
  refine g_dup dX11_change_57 (rv_cat _) ?_
  obtain ⟨v1, ev1, hf⟩ := ob hf
  refine g_getI dX11_change_58 ev1 t_389 hin15 hc15 (by decide) rfl ?_
  refine g_iconst (v := 1) dX11_change_61 (by decide) ?_
  refine g_iadd dX11_change_62 ?_
  obtain ⟨σ2, eσ2, hf⟩ := ob hf
  refine g_putI dX11_change_63 eσ2 (Or.inl t_389) hin15 hc15 (by decide) hty15 hnm15 (Or.inl rfl) rfl rfl rfl ?_
  refine g_aload_n (j := 0) dX11_change_66 rfl rfl ?_
  refine g_aload_n (j := 0) dX11_change_67 rfl rfl ?_
  obtain ⟨v3, ev3, hf⟩ := ob hf
  refine g_getI dX11_change_68 ev3 t_389 hin15 hc15 (by decide) rfl ?_
  obtain ⟨σ4, eσ4, hf⟩ := ob hf
  refine g_putI dX11_change_71 eσ4 (Or.inl t_390) hin15 hc15 (by decide) hty15 hnm15 (Or.inl rfl) rfl rfl rfl ?_
  refine g_aload_n (j := 0) dX11_change_74 rfl rfl ?_
  obtain ⟨v5, ev5, hf⟩ := ob hf
  refine g_getF dX11_change_75 ev5 t_388 hin15 hc15 (by decide) rfl ?_
  refine g_aload_n (j := 0) dX11_change_78 rfl rfl ?_
  obtain ⟨v6, ev6, hf⟩ := ob hf
  refine g_getI dX11_change_79 ev6 t_389 hin15 hc15 (by decide) rfl ?_
  refine g_aload_n (j := 1) dX11_change_82 rfl rfl ?_
  obtain ⟨σ7, eσ7, hf⟩ := ob hf
  refine g_aast dX11_change_83 (by decide) rfl hc11 eσ7 ?_
  exact g_vret dX11_change_84 rfl hX2 hX1 hf

set_option maxRecDepth 100000 in
set_option maxHeartbeats 4000000 in
theorem bX11_change_16 {X : Xt} {σf : St} {r : Unit} (hX1 : X.2.2.1 = σf) (hX2 : X.2.2.2 = .inl (none)) : ∀ (n : Nat) (σ : St) (x0 : Nat) (x1 : Nat) (x2 : Int32), fX11_change_16 n σ x0 x1 x2 = some (σf, r) → G MtX11_change X σ 16 [(0, rv x0), (1, rv x1), (2, .int x2)] [] := by
  intro n
  induction n with
  | zero => intro σ x0 x1 x2 hf; cases hf
  | succ n ih =>
    intro σ x0 x1 x2 hf
    rw [fX11_change_16] at hf
    refine g_iload_n (j := 2) dX11_change_16 rfl rfl ?_
    refine g_aload_n (j := 0) dX11_change_17 rfl rfl ?_
    obtain ⟨v1, ev1, hf⟩ := ob hf
    refine g_getF dX11_change_18 ev1 t_388 hin15 hc15 (by decide) rfl ?_
    obtain ⟨v2, ev2, hf⟩ := ob hf
    refine g_alen dX11_change_21 ev2 ?_
    refine g_icmp_ge (tgt := 45) dX11_change_22 (by decide) (fun c3 => ?_) (fun c3 => ?_)
    · rw [if_pos c3] at hf
      refine g_aload_n (j := 0) dX11_change_45 rfl rfl ?_
      refine g_aload_n (j := 0) dX11_change_46 rfl rfl ?_
      obtain ⟨v4, ev4, hf⟩ := ob hf
      refine g_getF dX11_change_47 ev4 t_388 hin15 hc15 (by decide) rfl ?_
      obtain ⟨v5, ev5, hf⟩ := ob hf
      refine g_alen dX11_change_50 ev5 ?_
      refine g_iconst (v := 2) dX11_change_51 (by decide) ?_
      refine g_isub dX11_change_52 ?_
      obtain ⟨σ6, eσ6, hf⟩ := ob hf
      refine g_putI dX11_change_53 eσ6 (Or.inl t_389) hin15 hc15 (by decide) hty15 hnm15 (Or.inl rfl) rfl rfl rfl ?_
      refine g_sub (L' := [(0, rv x0), (1, rv x1)]) [0, 1] rfl ?_
      exact bX11_change_56 hX1 hX2 hf
    · rw [if_neg c3] at hf
      refine g_aload_n (j := 0) dX11_change_25 rfl rfl ?_
      obtain ⟨v7, ev7, hf⟩ := ob hf
      refine g_getF dX11_change_26 ev7 t_388 hin15 hc15 (by decide) rfl ?_
      refine g_iload_n (j := 2) dX11_change_29 rfl rfl ?_
      refine g_iconst (v := 1) dX11_change_30 (by decide) ?_
      refine g_isub dX11_change_31 ?_
      refine g_aload_n (j := 0) dX11_change_32 rfl rfl ?_
      obtain ⟨v8, ev8, hf⟩ := ob hf
      refine g_getF dX11_change_33 ev8 t_388 hin15 hc15 (by decide) rfl ?_
      refine g_iload_n (j := 2) dX11_change_36 rfl rfl ?_
      obtain ⟨v9, ev9, hf⟩ := ob hf
      refine g_aald dX11_change_37 (by decide) rfl ev9 ?_
      obtain ⟨σ10, eσ10, hf⟩ := ob hf
      refine g_aast dX11_change_38 (by decide) rfl hc11 eσ10 ?_
      obtain ⟨v11, ev11, hf⟩ := nm_el hf
      refine g_iinc (L' := [(2, .int v11), (0, rv x0), (1, rv x1)]) (j := 2) (v := v11) dX11_change_39 rfl (by rw [ev11]; rfl) (Nat.le_of_ble_eq_true rfl) (by simp [rv_cat]) ?_
      refine g_goto (tgt := 16) dX11_change_42 (by decide) ?_
      refine g_sub (L' := [(0, rv x0), (1, rv x1), (2, .int v11)]) [1, 2, 0] rfl ?_
      exact ih _ _ _ _ hf

set_option maxRecDepth 100000 in
set_option maxHeartbeats 4000000 in
theorem wX11_change (l : Launch) {σ σf : St} {x0 : Nat} {x1 : Nat} {r : Unit} (hf : fX11_change σ x0 x1 = some (σf, r)) : Con MtX11_change yX11_change l σ [rv x0, rv x1] σf (none) := by
  refine Con.of (by decide +kernel) rfl (fun h => absurd (show false = true from h) (by decide)) (by simp only [sl_n, sl_r, sl_i, sl_l]; exact Nat.le_of_ble_eq_true rfl) ?_
  rw [show lv_args 0 [rv x0, rv x1] = [(0, rv x0), (1, rv x1)] by simp only [la_n, la_r, la_i, la_l] <;> rfl]
  have hX1 : ((l, σ, σf, .inl (none)) : Xt).2.2.1 = σf := rfl
  have hX2 : ((l, σ, σf, .inl (none)) : Xt).2.2.2 = .inl (none) := rfl
  unfold fX11_change at hf
  refine g_aload_n (j := 0) dX11_change_0 rfl rfl ?_
  obtain ⟨v1, ev1, hf⟩ := ob hf
  refine g_getI dX11_change_1 ev1 t_389 hin15 hc15 (by decide) rfl ?_
  refine g_iconst (v := 1) dX11_change_4 (by decide) ?_
  refine g_iadd dX11_change_5 ?_
  refine g_aload_n (j := 0) dX11_change_6 rfl rfl ?_
  obtain ⟨v2, ev2, hf⟩ := ob hf
  refine g_getF dX11_change_7 ev2 t_388 hin15 hc15 (by decide) rfl ?_
  obtain ⟨v3, ev3, hf⟩ := ob hf
  refine g_alen dX11_change_10 ev3 ?_
  refine g_icmp_lt (tgt := 56) dX11_change_11 (by decide) (fun c4 => ?_) (fun c4 => ?_)
  · rw [if_pos c4] at hf
    exact bX11_change_56 hX1 hX2 hf
  · rw [if_neg c4] at hf
    refine g_iconst (v := 1) dX11_change_14 (by decide) ?_
    refine g_istore_n (i := 2) (L' := [(2, .int 1), (0, rv x0), (1, rv x1)]) dX11_change_15 rfl (Nat.le_of_ble_eq_true rfl) (by simp [rv_cat]) ?_
    refine g_sub (L' := [(0, rv x0), (1, rv x1), (2, .int 1)]) [1, 2, 0] rfl ?_
    exact bX11_change_16 hX1 hX2 FU _ _ _ _ hf

theorem okX11_change (M : Mt) (h1 : 1 + 1 ≤ M.2.2.2.2.1) (h2 : 8 + (3 + 11) + 84 ≤ M.2.2.2.2.2.1) : CallOk M MtX11_change yX11_change 1 := ⟨t_1617, h1, h2, ⟨by decide, by decide⟩, by decide +kernel, t_1⟩
abbrev MtX11_run : Mt := (cX11_run, 3, "ExactlySaid", (Option.some Jvm.ClassFile.FieldType.int), 106, 4447, false)
set_option maxRecDepth 100000 in
set_option maxHeartbeats 4000000 in
theorem bX11_run_58 {X : Xt} {σf : St} {r : (String ⊕ Int32)} (hX1 : X.2.2.1 = σf) (hX2 : X.2.2.2 = xo (ocI r)) {σ : St} (hf : fX11_run_58 σ  = some (σf, r)) : G MtX11_run X σ 58 [] [] := by
  unfold fX11_run_58 at hf
  cases hf
  exact g_throw (cls := "java/lang/ArithmeticException") (names := ["java/lang/RuntimeException", "java/lang/Exception"]) dX11_run_58 dX11_run_61 dX11_run_62 dX11_run_65 (by decide +kernel) (by decide +kernel) thw_113 thg_113 (by decide) (by decide) hX2 hX1 rfl

set_option maxRecDepth 100000 in
set_option maxHeartbeats 4000000 in
theorem bX11_run_170 {X : Xt} {σf : St} {r : (String ⊕ Int32)} (hX1 : X.2.2.1 = σf) (hX2 : X.2.2.2 = xo (ocI r)) {σ : St} {x0 : Nat} (hf : fX11_run_170 σ x0 = some (σf, r)) : G MtX11_run X σ 170 [(0, rv x0)] [] := by
  unfold fX11_run_170 at hf
  refine g_aload_n (j := 0) dX11_run_170 rfl rfl ?_
  obtain ⟨v1, ev1, hf⟩ := ob hf
  refine g_getF dX11_run_171 ev1 t_392 hin15 hc15 (by decide) rfl ?_
  obtain ⟨v2, ev2, hf⟩ := ob hf
  refine g_getIN dX11_run_174 ev2 t_231 hin8 hc8 (by decide) rfl ?_
  cases hf
  exact g_iret dX11_run_177 rfl rfl hX2 hX1 rfl

set_option maxRecDepth 100000 in
set_option maxHeartbeats 4000000 in
theorem bX11_run_143 {X : Xt} {σf : St} {r : (String ⊕ Int32)} (hX1 : X.2.2.1 = σf) (hX2 : X.2.2.2 = xo (ocI r)) {σ : St} {x0 : Nat} {x1 : Nat} (hf : fX11_run_143 σ x0 x1 = some (σf, r)) : G MtX11_run X σ 143 [(0, rv x0), (1, rv x1)] [] := by
  unfold fX11_run_143 at hf
  refine g_aload_n (j := 1) dX11_run_143 rfl rfl ?_
  refine g_ifnull (tgt := 170) dX11_run_144 (by decide) (fun c1 => ?_) (fun c1 => ?_)
  · rw [if_pos c1] at hf
    refine g_sub (L' := [(0, rv x0)]) [0] rfl ?_
    exact bX11_run_170 hX1 hX2 hf
  · rw [if_neg c1] at hf
    refine g_aload_n (j := 0) dX11_run_147 rfl rfl ?_
    refine g_aload_n (j := 1) dX11_run_148 rfl rfl ?_
    obtain ⟨σ2, eσ2, hf⟩ := ob hf
    refine g_putF dX11_run_149 eσ2 (Or.inl t_383) hin15 hc15 (by decide) hty15 hnm15 (Or.inl rfl) rfl ?_
    refine g_aload_n (j := 0) dX11_run_152 rfl rfl ?_
    obtain ⟨v3, ev3, hf⟩ := ob hf
    refine g_getF dX11_run_153 ev3 t_386 hin15 hc15 (by decide) rfl ?_
    refine g_astore_n (i := 2) (L' := [(2, rv v3), (0, rv x0), (1, rv x1)]) dX11_run_156 rfl (Nat.le_of_ble_eq_true rfl) (by simp [rv_cat]) ?_
    refine g_aload_n (j := 1) dX11_run_157 rfl rfl ?_
    refine g_aload_n (j := 1) dX11_run_158 rfl rfl ?_
    obtain ⟨v4, ev4, hf⟩ := ob hf
    refine g_getF dX11_run_159 ev4 t_387 hin15 hc15 (by decide) rfl ?_
    obtain ⟨σ5, eσ5, hf⟩ := ob hf
    refine g_putF dX11_run_162 eσ5 (Or.inl t_386) hin15 hc15 (by decide) hty15 hnm15 (Or.inl rfl) rfl ?_
    refine g_aload_n (j := 1) dX11_run_165 rfl rfl ?_
    refine g_aload_n (j := 0) dX11_run_166 rfl rfl ?_
    obtain ⟨σ6, eσ6, hf⟩ := ob hf
    refine g_putF dX11_run_167 eσ6 (Or.inl t_387) hin15 hc15 (by decide) hty15 hnm15 (Or.inl rfl) rfl ?_
    refine g_sub (L' := [(0, rv x0)]) [1] rfl ?_
    exact bX11_run_170 hX1 hX2 hf

set_option maxRecDepth 100000 in
set_option maxHeartbeats 4000000 in
theorem bX11_run_95 {X : Xt} {σf : St} {r : (String ⊕ Int32)} (hX1 : X.2.2.1 = σf) (hX2 : X.2.2.2 = xo (ocI r)) {σ : St} {x0 : Nat} {y0 : Nat} (hf : fX11_run_95 σ x0 y0 = some (σf, r)) : G MtX11_run X σ 95 [(0, rv x0)] [rv y0] := by
  unfold fX11_run_95 at hf
  refine g_astore_n (i := 1) (L' := [(1, rv y0), (0, rv x0)]) dX11_run_95 rfl (Nat.le_of_ble_eq_true rfl) (by simp [rv_cat]) ?_
  refine g_aload_n (j := 1) dX11_run_96 rfl rfl ?_
  obtain ⟨v1, ev1, hf⟩ := ob hf
  refine g_getF dX11_run_97 ev1 t_392 hin15 hc15 (by decide) rfl ?_
  obtain ⟨v2, ev2, hf⟩ := ob hf
  refine g_getIN dX11_run_100 ev2 t_231 hin8 hc8 (by decide) rfl ?_
  refine g_if_eq (tgt := 143) dX11_run_103 (by decide) (fun c3 => ?_) (fun c3 => ?_)
  · rw [if_pos c3] at hf
    refine g_sub (L' := [(0, rv x0), (1, rv y0)]) [1, 0] rfl ?_
    exact bX11_run_143 hX1 hX2 hf
  · rw [if_neg c3] at hf
    refine g_aload_n (j := 1) dX11_run_106 rfl rfl ?_
    refine g_aload_n (j := 0) dX11_run_107 rfl rfl ?_
    obtain ⟨_, h6, hf⟩ := ob hf
    obtain ⟨σ4, a5, eσ4, hf⟩ := cb_el hf
    refine g_callV_q dX11_run_108 (wX11_bookWith _ eσ4) (okX11_bookWith _ (by decide) (by decide)) (ckK_el h6) hc15 t_1548 t_1550 s_X11_bookWith rfl (Nat.le_trans (cat_le _) (Nat.le_of_ble_eq_true rfl)) rfl ?_
    refine g_astore_n (i := 2) (L' := [(2, rv a5), (1, rv y0), (0, rv x0)]) dX11_run_111 rfl (Nat.le_of_ble_eq_true rfl) (by simp [rv_cat]) ?_
    refine g_aload_n (j := 0) dX11_run_112 rfl rfl ?_
    refine g_ifnonnull (tgt := 124) dX11_run_113 (by decide) (fun c7 => ?_) (fun c7 => ?_)
    · rw [if_neg c7] at hf
      refine g_aload_n (j := 2) dX11_run_124 rfl rfl ?_
      obtain ⟨σ8, eσ8, hf⟩ := nm_el hf
      obtain ⟨a9, ea9, hf⟩ := nm_el hf
      refine g_new9 dX11_run_125 hc11 hin11 hty11 hdf11 t_147 t_321 t_12 eσ8 ea9 ?_
      refine g_dup dX11_run_128 (rv_cat _) ?_
      refine g_aload_n (j := 0) dX11_run_129 rfl rfl ?_
      refine g_aload_n (j := 2) dX11_run_130 rfl rfl ?_
      obtain ⟨_, h12, hf⟩ := ob hf
      obtain ⟨σ10, a11, eσ10, hf⟩ := cb_el hf
      refine g_callV_q dX11_run_131 (wX11_present _ eσ10) (okX11_present _ (by decide) (by decide)) (ckK_el h12) hc15 t_959 t_961 s_X11_present rfl (Nat.le_trans (cat_le _) (Nat.le_of_ble_eq_true rfl)) rfl ?_
      obtain ⟨v13, ev13, hf⟩ := ob hf
      refine g_getFN dX11_run_134 ev13 t_369 hin11 hc11 (by decide) rfl ?_
      obtain ⟨_, h16, hf⟩ := ob hf
      obtain ⟨σ14, v15, eσ14, hf⟩ := cb_el hf
      refine g_callIN dX11_run_137 (wX7_init_ _ eσ14) (okX7_init_ _ (by decide) (by decide)) rfl (by rw [ckK_el h16]; decide) rfl t_1611 t_1612 rfl (Nat.le_trans (cat_le _) (Nat.le_of_ble_eq_true rfl)) rfl ?_
      obtain ⟨_, h19, hf⟩ := ob hf
      obtain ⟨σ17, v18, eσ17, hf⟩ := cb_el hf
      refine g_callV_v dX11_run_140 (wX11_change _ eσ17) (okX11_change _ (by decide) (by decide)) (ckK_el h19) hc15 t_1614 t_1616 s_X11_change rfl (Nat.le_trans (cat_le _) (Nat.le_of_ble_eq_true rfl)) rfl ?_
      refine g_sub (L' := [(0, rv x0), (1, rv y0)]) [2, 1] rfl ?_
      exact bX11_run_143 hX1 hX2 hf
    · rw [if_pos c7] at hf
      cases hf
      exact g_throw (cls := "java/lang/ArithmeticException") (names := ["java/lang/RuntimeException", "java/lang/Exception"]) dX11_run_116 dX11_run_119 dX11_run_120 dX11_run_123 (by decide +kernel) (by decide +kernel) thw_113 thg_113 (by decide) (by decide) hX2 hX1 rfl

set_option maxRecDepth 100000 in
set_option maxHeartbeats 4000000 in
theorem wX11_run (l : Launch) (hst : l.stackTraces = false) {σ σf : St} {x0 : Nat} {r : (String ⊕ Int32)} (hf : fX11_run σ x0 = some (σf, r)) : ConT MtX11_run yX11_run l σ [rv x0] σf (ocI r) := by
  refine ConT.of hst (by decide +kernel) rfl (fun h => absurd (show false = true from h) (by decide)) (by simp only [sl_n, sl_r, sl_i, sl_l]; exact Nat.le_of_ble_eq_true rfl) ?_
  rw [show lv_args 0 [rv x0] = [(0, rv x0)] by simp only [la_n, la_r, la_i, la_l] <;> rfl]
  have hX1 : ((l, σ, σf, xo (ocI r)) : Xt).2.2.1 = σf := rfl
  have hX2 : ((l, σ, σf, xo (ocI r)) : Xt).2.2.2 = xo (ocI r) := rfl
  generalize ((l, σ, σf, xo (ocI r)) : Xt) = X at hX1 hX2 ⊢
  unfold fX11_run at hf
  refine g_aload_n (j := 0) dX11_run_0 rfl rfl ?_
  refine g_aload_n (j := 0) dX11_run_1 rfl rfl ?_
  obtain ⟨v1, ev1, hf⟩ := ob hf
  refine g_getF dX11_run_2 ev1 t_392 hin15 hc15 (by decide) rfl ?_
  refine g_aload_n (j := 0) dX11_run_5 rfl rfl ?_
  obtain ⟨v2, ev2, hf⟩ := ob hf
  refine g_getF dX11_run_6 ev2 t_375 hin15 hc15 (by decide) rfl ?_
  refine g_aload_n (j := 0) dX11_run_9 rfl rfl ?_
  obtain ⟨v3, ev3, hf⟩ := ob hf
  refine g_getI dX11_run_10 ev3 t_376 hin15 hc15 (by decide) rfl ?_
  refine g_aload_n (j := 0) dX11_run_13 rfl rfl ?_
  obtain ⟨v4, ev4, hf⟩ := ob hf
  refine g_getF dX11_run_14 ev4 t_391 hin15 hc15 (by decide) rfl ?_
  obtain ⟨_, h7, hf⟩ := ob hf
  obtain ⟨σ5, v6, eσ5, hf⟩ := cb_el hf
  refine g_callVN_i dX11_run_17 (wX4_read _ eσ5) (okX4_read _ (by decide) (by decide)) (ckK_el h7) hc8 t_1311 t_1313 s_X4_read rfl (Nat.le_trans (cat_le _) (Nat.le_of_ble_eq_true rfl)) rfl ?_
  obtain ⟨σ8, eσ8, hf⟩ := ob hf
  refine g_putI dX11_run_20 eσ8 (Or.inl t_377) hin15 hc15 (by decide) hty15 hnm15 (Or.inl rfl) rfl rfl rfl ?_
  refine g_aload_n (j := 0) dX11_run_23 rfl rfl ?_
  refine g_iconst (v := 0) dX11_run_24 (by decide) ?_
  obtain ⟨σ9, eσ9, hf⟩ := ob hf
  refine g_putI dX11_run_25 eσ9 (Or.inl t_376) hin15 hc15 (by decide) hty15 hnm15 (Or.inl rfl) rfl rfl rfl ?_
  refine g_aload_n (j := 0) dX11_run_28 rfl rfl ?_
  obtain ⟨v10, ev10, hf⟩ := ob hf
  refine g_getI dX11_run_29 ev10 t_377 hin15 hc15 (by decide) rfl ?_
  refine g_iconst (v := (-1)) dX11_run_32 (by decide) ?_
  refine g_icmp_eq (tgt := 44) dX11_run_33 (by decide) (fun c11 => ?_) (fun c11 => ?_)
  · rw [if_pos c11] at hf
    refine g_aload_n (j := 0) dX11_run_44 rfl rfl ?_
    obtain ⟨_, h14, hf⟩ := ob hf
    obtain ⟨σ12, v13, eσ12, hf⟩ := cb_el hf
    refine g_callV_i dX11_run_45 (wX11_isRefusedAhead _ eσ12) (okX11_isRefusedAhead _ (by decide) (by decide)) (ckK_el h14) hc15 t_1473 t_1475 s_X11_isRefusedAhead rfl (Nat.le_trans (cat_le _) (Nat.le_of_ble_eq_true rfl)) rfl ?_
    refine g_if_ne (tgt := 58) dX11_run_48 (by decide) (fun c15 => ?_) (fun c15 => ?_)
    · rw [if_neg c15] at hf
      refine g_sub (L' := []) [] rfl ?_
      exact bX11_run_58 hX1 hX2 hf
    · rw [if_pos c15] at hf
      refine g_aload_n (j := 0) dX11_run_51 rfl rfl ?_
      obtain ⟨_, h18, hf⟩ := ob hf
      obtain ⟨σ16, v17, eσ16, hf⟩ := cb_el hf
      refine g_callV_i dX11_run_52 (wX11_isRefusedAtWork _ eσ16) (okX11_isRefusedAtWork _ (by decide) (by decide)) (ckK_el h18) hc15 t_1535 t_1537 s_X11_isRefusedAtWork rfl (Nat.le_trans (cat_le _) (Nat.le_of_ble_eq_true rfl)) rfl ?_
      refine g_if_eq (tgt := 66) dX11_run_55 (by decide) (fun c19 => ?_) (fun c19 => ?_)
      · rw [if_pos c19] at hf
        refine g_aload_n (j := 0) dX11_run_66 rfl rfl ?_
        obtain ⟨v20, ev20, hf⟩ := ob hf
        refine g_getF dX11_run_67 ev20 t_392 hin15 hc15 (by decide) rfl ?_
        obtain ⟨v21, ev21, hf⟩ := ob hf
        refine g_getIN dX11_run_70 ev21 t_231 hin8 hc8 (by decide) rfl ?_
        refine g_iconst (v := 2) dX11_run_73 (by decide) ?_
        refine g_icmp_ne (tgt := 81) dX11_run_74 (by decide) (fun c22 => ?_) (fun c22 => ?_)
        · rw [if_neg c22] at hf
          obtain ⟨σ23, eσ23, hf⟩ := nm_el hf
          obtain ⟨a24, ea24, hf⟩ := nm_el hf
          refine g_new9 dX11_run_81 hc5 hin5 hty5 hdf5 t_44 t_45 t_2 eσ23 ea24 ?_
          refine g_dup dX11_run_84 (rv_cat _) ?_
          refine g_aload_n (j := 0) dX11_run_85 rfl rfl ?_
          obtain ⟨v25, ev25, hf⟩ := ob hf
          refine g_getF dX11_run_86 ev25 t_393 hin15 hc15 (by decide) rfl ?_
          obtain ⟨v26, ev26, hf⟩ := ob hf
          refine g_getFN dX11_run_89 ev26 t_301 hin6 hc6 (by decide) rfl ?_
          obtain ⟨_, h29, hf⟩ := ob hf
          obtain ⟨σ27, v28, eσ27, hf⟩ := cb_el hf
          refine g_callIN dX11_run_92 (wX1_init_ _ eσ27) (okX1_init_ _ (by decide) (by decide)) rfl (by rw [ckK_el h29]; decide) rfl t_1544 t_1545 rfl (Nat.le_trans (cat_le _) (Nat.le_of_ble_eq_true rfl)) rfl ?_
          exact bX11_run_95 hX1 hX2 hf
        · rw [if_pos c22] at hf
          refine g_null dX11_run_77 ?_
          refine g_goto (tgt := 95) dX11_run_78 (by decide) ?_
          exact bX11_run_95 hX1 hX2 hf
      · rw [if_neg c19] at hf
        refine g_sub (L' := []) [] rfl ?_
        exact bX11_run_58 hX1 hX2 hf
  · rw [if_neg c11] at hf
    cases hf
    exact g_throw (cls := "java/lang/IllegalArgumentException") (names := ["java/lang/RuntimeException", "java/lang/Exception"]) dX11_run_36 dX11_run_39 dX11_run_40 dX11_run_43 (by decide +kernel) (by decide +kernel) thw_103 thg_103 (by decide) (by decide) hX2 hX1 rfl

theorem okX11_run (M : Mt) (h1 : 106 + 1 ≤ M.2.2.2.2.1) (h2 : 8 + (3 + 11) + 4447 ≤ M.2.2.2.2.2.1) : CallOk M MtX11_run yX11_run 0 := ⟨t_1310, h1, h2, ⟨by decide, by decide⟩, by decide +kernel, t_1⟩
abbrev MtX11_errorPosition : Mt := (cX11_errorPosition, 1, "ExactlySaid", (Option.some Jvm.ClassFile.FieldType.int), 1, 84, false)
set_option maxRecDepth 100000 in
set_option maxHeartbeats 4000000 in
theorem wX11_errorPosition (l : Launch) {σ σf : St} {x0 : Nat} {r : Int32} (hf : fX11_errorPosition σ x0 = some (σf, r)) : Con MtX11_errorPosition yX11_errorPosition l σ [rv x0] σf (some (.int r)) := by
  refine Con.of (by decide +kernel) rfl (fun h => absurd (show false = true from h) (by decide)) (by simp only [sl_n, sl_r, sl_i, sl_l]; exact Nat.le_of_ble_eq_true rfl) ?_
  rw [show lv_args 0 [rv x0] = [(0, rv x0)] by simp only [la_n, la_r, la_i, la_l] <;> rfl]
  have hX1 : ((l, σ, σf, .inl (some (.int r))) : Xt).2.2.1 = σf := rfl
  have hX2 : ((l, σ, σf, .inl (some (.int r))) : Xt).2.2.2 = .inl (some (.int r)) := rfl
  unfold fX11_errorPosition at hf
  refine g_aload_n (j := 0) dX11_errorPosition_0 rfl rfl ?_
  obtain ⟨v1, ev1, hf⟩ := ob hf
  refine g_getI dX11_errorPosition_1 ev1 t_377 hin15 hc15 (by decide) rfl ?_
  exact g_iret dX11_errorPosition_4 rfl rfl hX2 hX1 hf

theorem okX11_errorPosition (M : Mt) (h1 : 1 + 1 ≤ M.2.2.2.2.1) (h2 : 8 + (1 + 11) + 84 ≤ M.2.2.2.2.2.1) : CallOk M MtX11_errorPosition yX11_errorPosition 0 := ⟨t_440, h1, h2, ⟨by decide, by decide⟩, by decide +kernel, t_1⟩
abbrev MtX11_refused : Mt := (cX11_refused, 2, "ExactlySaid", (Option.some Jvm.ClassFile.FieldType.int), 8, 160, false)
set_option maxRecDepth 100000 in
set_option maxHeartbeats 4000000 in
theorem bX11_refused_17 {X : Xt} {σf : St} {r : (String ⊕ Int32)} (hX1 : X.2.2.1 = σf) (hX2 : X.2.2.2 = xo (ocI r)) {σ : St} {x0 : Nat} {x1 : Int32} (hf : fX11_refused_17 σ x0 x1 = some (σf, r)) : G MtX11_refused X σ 17 [(0, rv x0), (1, .int x1)] [] := by
  unfold fX11_refused_17 at hf
  refine g_iload_n (j := 1) dX11_refused_17 rfl rfl ?_
  refine g_if_ne (tgt := 28) dX11_refused_18 (by decide) (fun c1 => ?_) (fun c1 => ?_)
  · rw [if_neg c1] at hf
    refine g_aload_n (j := 0) dX11_refused_28 rfl rfl ?_
    obtain ⟨v2, ev2, hf⟩ := ob hf
    refine g_getI dX11_refused_29 ev2 t_379 hin15 hc15 (by decide) rfl ?_
    cases hf
    exact g_iret dX11_refused_32 rfl rfl hX2 hX1 rfl
  · rw [if_pos c1] at hf
    refine g_aload_n (j := 0) dX11_refused_21 rfl rfl ?_
    obtain ⟨v3, ev3, hf⟩ := ob hf
    refine g_getI dX11_refused_22 ev3 t_378 hin15 hc15 (by decide) rfl ?_
    refine g_goto (tgt := 32) dX11_refused_25 (by decide) ?_
    cases hf
    exact g_iret dX11_refused_32 rfl rfl hX2 hX1 rfl

set_option maxRecDepth 100000 in
set_option maxHeartbeats 4000000 in
theorem wX11_refused (l : Launch) (hst : l.stackTraces = false) {σ σf : St} {x0 : Nat} {x1 : Int32} {r : (String ⊕ Int32)} (hf : fX11_refused σ x0 x1 = some (σf, r)) : ConT MtX11_refused yX11_refused l σ [rv x0, .int x1] σf (ocI r) := by
  refine ConT.of hst (by decide +kernel) rfl (fun h => absurd (show false = true from h) (by decide)) (by simp only [sl_n, sl_r, sl_i, sl_l]; exact Nat.le_of_ble_eq_true rfl) ?_
  rw [show lv_args 0 [rv x0, .int x1] = [(0, rv x0), (1, .int x1)] by simp only [la_n, la_r, la_i, la_l] <;> rfl]
  have hX1 : ((l, σ, σf, xo (ocI r)) : Xt).2.2.1 = σf := rfl
  have hX2 : ((l, σ, σf, xo (ocI r)) : Xt).2.2.2 = xo (ocI r) := rfl
  generalize ((l, σ, σf, xo (ocI r)) : Xt) = X at hX1 hX2 ⊢
  unfold fX11_refused at hf
  refine g_iload_n (j := 1) dX11_refused_0 rfl rfl ?_
  refine g_if_eq (tgt := 17) dX11_refused_1 (by decide) (fun c1 => ?_) (fun c1 => ?_)
  · rw [if_pos c1] at hf
    exact bX11_refused_17 hX1 hX2 hf
  · rw [if_neg c1] at hf
    refine g_iload_n (j := 1) dX11_refused_4 rfl rfl ?_
    refine g_iconst (v := 1) dX11_refused_5 (by decide) ?_
    refine g_icmp_eq (tgt := 17) dX11_refused_6 (by decide) (fun c2 => ?_) (fun c2 => ?_)
    · rw [if_pos c2] at hf
      exact bX11_refused_17 hX1 hX2 hf
    · rw [if_neg c2] at hf
      cases hf
      exact g_throw (cls := "java/lang/IllegalArgumentException") (names := ["java/lang/RuntimeException", "java/lang/Exception"]) dX11_refused_9 dX11_refused_12 dX11_refused_13 dX11_refused_16 (by decide +kernel) (by decide +kernel) thw_103 thg_103 (by decide) (by decide) hX2 hX1 rfl

theorem okX11_refused (M : Mt) (h1 : 8 + 1 ≤ M.2.2.2.2.1) (h2 : 8 + (2 + 11) + 160 ≤ M.2.2.2.2.2.1) : CallOk M MtX11_refused yX11_refused 1 := ⟨t_1624, h1, h2, ⟨by decide, by decide⟩, by decide +kernel, t_1⟩
abbrev MtX11_failed : Mt := (cX11_failed, 1, "ExactlySaid", (Option.some Jvm.ClassFile.FieldType.int), 1, 84, false)
set_option maxRecDepth 100000 in
set_option maxHeartbeats 4000000 in
theorem wX11_failed (l : Launch) {σ σf : St} {x0 : Nat} {r : Int32} (hf : fX11_failed σ x0 = some (σf, r)) : Con MtX11_failed yX11_failed l σ [rv x0] σf (some (.int r)) := by
  refine Con.of (by decide +kernel) rfl (fun h => absurd (show false = true from h) (by decide)) (by simp only [sl_n, sl_r, sl_i, sl_l]; exact Nat.le_of_ble_eq_true rfl) ?_
  rw [show lv_args 0 [rv x0] = [(0, rv x0)] by simp only [la_n, la_r, la_i, la_l] <;> rfl]
  have hX1 : ((l, σ, σf, .inl (some (.int r))) : Xt).2.2.1 = σf := rfl
  have hX2 : ((l, σ, σf, .inl (some (.int r))) : Xt).2.2.2 = .inl (some (.int r)) := rfl
  unfold fX11_failed at hf
  refine g_aload_n (j := 0) dX11_failed_0 rfl rfl ?_
  obtain ⟨v1, ev1, hf⟩ := ob hf
  refine g_getI dX11_failed_1 ev1 t_380 hin15 hc15 (by decide) rfl ?_
  exact g_iret dX11_failed_4 rfl rfl hX2 hX1 hf

theorem okX11_failed (M : Mt) (h1 : 1 + 1 ≤ M.2.2.2.2.1) (h2 : 8 + (1 + 11) + 84 ≤ M.2.2.2.2.2.1) : CallOk M MtX11_failed yX11_failed 0 := ⟨t_444, h1, h2, ⟨by decide, by decide⟩, by decide +kernel, t_1⟩
abbrev MtX11_ring : Mt := (cX11_ring, 1, "ExactlySaid", (Option.some Jvm.ClassFile.FieldType.int), 1, 84, false)
set_option maxRecDepth 100000 in
set_option maxHeartbeats 4000000 in
theorem wX11_ring (l : Launch) {σ σf : St} {x0 : Nat} {r : Int32} (hf : fX11_ring σ x0 = some (σf, r)) : Con MtX11_ring yX11_ring l σ [rv x0] σf (some (.int r)) := by
  refine Con.of (by decide +kernel) rfl (fun h => absurd (show false = true from h) (by decide)) (by simp only [sl_n, sl_r, sl_i, sl_l]; exact Nat.le_of_ble_eq_true rfl) ?_
  rw [show lv_args 0 [rv x0] = [(0, rv x0)] by simp only [la_n, la_r, la_i, la_l] <;> rfl]
  have hX1 : ((l, σ, σf, .inl (some (.int r))) : Xt).2.2.1 = σf := rfl
  have hX2 : ((l, σ, σf, .inl (some (.int r))) : Xt).2.2.2 = .inl (some (.int r)) := rfl
  unfold fX11_ring at hf
  refine g_aload_n (j := 0) dX11_ring_0 rfl rfl ?_
  obtain ⟨v1, ev1, hf⟩ := ob hf
  refine g_getI dX11_ring_1 ev1 t_382 hin15 hc15 (by decide) rfl ?_
  exact g_iret dX11_ring_4 rfl rfl hX2 hX1 hf

theorem okX11_ring (M : Mt) (h1 : 1 + 1 ≤ M.2.2.2.2.1) (h2 : 8 + (1 + 11) + 84 ≤ M.2.2.2.2.2.1) : CallOk M MtX11_ring yX11_ring 0 := ⟨t_448, h1, h2, ⟨by decide, by decide⟩, by decide +kernel, t_1⟩
abbrev MtX11_ringAt : Mt := (cX11_ringAt, 2, "ExactlySaid", (Option.some Jvm.ClassFile.FieldType.int), 8, 160, false)
set_option maxRecDepth 100000 in
set_option maxHeartbeats 4000000 in
theorem bX11_ringAt_21 {X : Xt} {σf : St} {r : (String ⊕ Int32)} (hX1 : X.2.2.1 = σf) (hX2 : X.2.2.2 = xo (ocI r)) {σ : St} (hf : fX11_ringAt_21 σ  = some (σf, r)) : G MtX11_ringAt X σ 21 [] [] := by
  unfold fX11_ringAt_21 at hf
  cases hf
  exact g_throw (cls := "java/lang/IndexOutOfBoundsException") (names := ["java/lang/RuntimeException", "java/lang/Exception"]) dX11_ringAt_21 dX11_ringAt_24 dX11_ringAt_25 dX11_ringAt_28 (by decide +kernel) (by decide +kernel) thw_147 thg_147 (by decide) (by decide) hX2 hX1 rfl

set_option maxRecDepth 100000 in
set_option maxHeartbeats 4000000 in
theorem wX11_ringAt (l : Launch) (hst : l.stackTraces = false) {σ σf : St} {x0 : Nat} {x1 : Int32} {r : (String ⊕ Int32)} (hf : fX11_ringAt σ x0 x1 = some (σf, r)) : ConT MtX11_ringAt yX11_ringAt l σ [rv x0, .int x1] σf (ocI r) := by
  refine ConT.of hst (by decide +kernel) rfl (fun h => absurd (show false = true from h) (by decide)) (by simp only [sl_n, sl_r, sl_i, sl_l]; exact Nat.le_of_ble_eq_true rfl) ?_
  rw [show lv_args 0 [rv x0, .int x1] = [(0, rv x0), (1, .int x1)] by simp only [la_n, la_r, la_i, la_l] <;> rfl]
  have hX1 : ((l, σ, σf, xo (ocI r)) : Xt).2.2.1 = σf := rfl
  have hX2 : ((l, σ, σf, xo (ocI r)) : Xt).2.2.2 = xo (ocI r) := rfl
  generalize ((l, σ, σf, xo (ocI r)) : Xt) = X at hX1 hX2 ⊢
  unfold fX11_ringAt at hf
  refine g_iload_n (j := 1) dX11_ringAt_0 rfl rfl ?_
  refine g_if_lt (tgt := 21) dX11_ringAt_1 (by decide) (fun c1 => ?_) (fun c1 => ?_)
  · rw [if_pos c1] at hf
    refine g_sub (L' := []) [] rfl ?_
    exact bX11_ringAt_21 hX1 hX2 hf
  · rw [if_neg c1] at hf
    refine g_iload_n (j := 1) dX11_ringAt_4 rfl rfl ?_
    refine g_aload_n (j := 0) dX11_ringAt_5 rfl rfl ?_
    obtain ⟨v2, ev2, hf⟩ := ob hf
    refine g_getI dX11_ringAt_6 ev2 t_382 hin15 hc15 (by decide) rfl ?_
    refine g_icmp_ge (tgt := 21) dX11_ringAt_9 (by decide) (fun c3 => ?_) (fun c3 => ?_)
    · rw [if_pos c3] at hf
      refine g_sub (L' := []) [] rfl ?_
      exact bX11_ringAt_21 hX1 hX2 hf
    · rw [if_neg c3] at hf
      refine g_iload_n (j := 1) dX11_ringAt_12 rfl rfl ?_
      refine g_aload_n (j := 0) dX11_ringAt_13 rfl rfl ?_
      obtain ⟨v4, ev4, hf⟩ := ob hf
      refine g_getF dX11_ringAt_14 ev4 t_381 hin15 hc15 (by decide) rfl ?_
      obtain ⟨v5, ev5, hf⟩ := ob hf
      refine g_alen dX11_ringAt_17 ev5 ?_
      refine g_icmp_lt (tgt := 29) dX11_ringAt_18 (by decide) (fun c6 => ?_) (fun c6 => ?_)
      · rw [if_pos c6] at hf
        refine g_aload_n (j := 0) dX11_ringAt_29 rfl rfl ?_
        obtain ⟨v7, ev7, hf⟩ := ob hf
        refine g_getF dX11_ringAt_30 ev7 t_381 hin15 hc15 (by decide) rfl ?_
        refine g_iload_n (j := 1) dX11_ringAt_33 rfl rfl ?_
        obtain ⟨v8, ev8, hf⟩ := ob hf
        refine g_iald dX11_ringAt_34 ev8 ?_
        cases hf
        exact g_iret dX11_ringAt_35 rfl rfl hX2 hX1 rfl
      · rw [if_neg c6] at hf
        refine g_sub (L' := []) [] rfl ?_
        exact bX11_ringAt_21 hX1 hX2 hf

theorem okX11_ringAt (M : Mt) (h1 : 8 + 1 ≤ M.2.2.2.2.1) (h2 : 8 + (2 + 11) + 160 ≤ M.2.2.2.2.2.1) : CallOk M MtX11_ringAt yX11_ringAt 1 := ⟨t_1634, h1, h2, ⟨by decide, by decide⟩, by decide +kernel, t_1⟩
abbrev MtX11_sign : Mt := (cX11_sign, 1, "ExactlySaid", (Option.some Jvm.ClassFile.FieldType.int), 1, 84, false)
set_option maxRecDepth 100000 in
set_option maxHeartbeats 4000000 in
theorem wX11_sign (l : Launch) {σ σf : St} {x0 : Nat} {r : Int32} (hf : fX11_sign σ x0 = some (σf, r)) : Con MtX11_sign yX11_sign l σ [rv x0] σf (some (.int r)) := by
  refine Con.of (by decide +kernel) rfl (fun h => absurd (show false = true from h) (by decide)) (by simp only [sl_n, sl_r, sl_i, sl_l]; exact Nat.le_of_ble_eq_true rfl) ?_
  rw [show lv_args 0 [rv x0] = [(0, rv x0)] by simp only [la_n, la_r, la_i, la_l] <;> rfl]
  have hX1 : ((l, σ, σf, .inl (some (.int r))) : Xt).2.2.1 = σf := rfl
  have hX2 : ((l, σ, σf, .inl (some (.int r))) : Xt).2.2.2 = .inl (some (.int r)) := rfl
  unfold fX11_sign at hf
  refine g_aload_n (j := 0) dX11_sign_0 rfl rfl ?_
  obtain ⟨v1, ev1, hf⟩ := ob hf
  refine g_getF dX11_sign_1 ev1 t_383 hin15 hc15 (by decide) rfl ?_
  obtain ⟨v2, ev2, hf⟩ := ob hf
  refine g_getIN dX11_sign_4 ev2 t_75 hin5 hc5 (by decide) rfl ?_
  exact g_iret dX11_sign_7 rfl rfl hX2 hX1 hf

theorem okX11_sign (M : Mt) (h1 : 1 + 1 ≤ M.2.2.2.2.1) (h2 : 8 + (1 + 11) + 84 ≤ M.2.2.2.2.2.1) : CallOk M MtX11_sign yX11_sign 0 := ⟨t_452, h1, h2, ⟨by decide, by decide⟩, by decide +kernel, t_1⟩
abbrev MtX11_partOfAnswer : Mt := (cX11_partOfAnswer, 2, "ExactlySaid", (Option.some (Jvm.ClassFile.FieldType.object "ExactlySaid$Nat")), 1, 84, false)
set_option maxRecDepth 100000 in
set_option maxHeartbeats 4000000 in
theorem wX11_partOfAnswer (l : Launch) {σ σf : St} {x0 : Nat} {x1 : Int32} {r : Nat} (hf : fX11_partOfAnswer σ x0 x1 = some (σf, r)) : Con MtX11_partOfAnswer yX11_partOfAnswer l σ [rv x0, .int x1] σf (some (rv r)) := by
  refine Con.of (by decide +kernel) rfl (fun h => absurd (show false = true from h) (by decide)) (by simp only [sl_n, sl_r, sl_i, sl_l]; exact Nat.le_of_ble_eq_true rfl) ?_
  rw [show lv_args 0 [rv x0, .int x1] = [(0, rv x0), (1, .int x1)] by simp only [la_n, la_r, la_i, la_l] <;> rfl]
  have hX1 : ((l, σ, σf, .inl (some (rv r))) : Xt).2.2.1 = σf := rfl
  have hX2 : ((l, σ, σf, .inl (some (rv r))) : Xt).2.2.2 = .inl (some (rv r)) := rfl
  unfold fX11_partOfAnswer at hf
  refine g_iload_n (j := 1) dX11_partOfAnswer_0 rfl rfl ?_
  refine g_if_eq (tgt := 14) dX11_partOfAnswer_1 (by decide) (fun c1 => ?_) (fun c1 => ?_)
  · rw [if_pos c1] at hf
    refine g_aload_n (j := 0) dX11_partOfAnswer_14 rfl rfl ?_
    obtain ⟨v2, ev2, hf⟩ := ob hf
    refine g_getF dX11_partOfAnswer_15 ev2 t_383 hin15 hc15 (by decide) rfl ?_
    obtain ⟨v3, ev3, hf⟩ := ob hf
    refine g_getFN dX11_partOfAnswer_18 ev3 t_80 hin5 hc5 (by decide) rfl ?_
    exact g_aret dX11_partOfAnswer_21 rfl rfl hX2 hX1 hf
  · rw [if_neg c1] at hf
    refine g_aload_n (j := 0) dX11_partOfAnswer_4 rfl rfl ?_
    obtain ⟨v4, ev4, hf⟩ := ob hf
    refine g_getF dX11_partOfAnswer_5 ev4 t_383 hin15 hc15 (by decide) rfl ?_
    obtain ⟨v5, ev5, hf⟩ := ob hf
    refine g_getFN dX11_partOfAnswer_8 ev5 t_85 hin5 hc5 (by decide) rfl ?_
    refine g_goto (tgt := 21) dX11_partOfAnswer_11 (by decide) ?_
    exact g_aret dX11_partOfAnswer_21 rfl rfl hX2 hX1 hf

theorem okX11_partOfAnswer (M : Mt) (h1 : 1 + 1 ≤ M.2.2.2.2.1) (h2 : 8 + (2 + 11) + 84 ≤ M.2.2.2.2.2.1) : CallOk M MtX11_partOfAnswer yX11_partOfAnswer 1 := ⟨t_460, h1, h2, ⟨by decide, by decide⟩, by decide +kernel, t_1⟩
abbrev MtX11_digits : Mt := (cX11_digits, 2, "ExactlySaid", (Option.some Jvm.ClassFile.FieldType.int), 2, 106, false)
set_option maxRecDepth 100000 in
set_option maxHeartbeats 4000000 in
theorem wX11_digits (l : Launch) {σ σf : St} {x0 : Nat} {x1 : Int32} {r : Int32} (hf : fX11_digits σ x0 x1 = some (σf, r)) : Con MtX11_digits yX11_digits l σ [rv x0, .int x1] σf (some (.int r)) := by
  refine Con.of (by decide +kernel) rfl (fun h => absurd (show false = true from h) (by decide)) (by simp only [sl_n, sl_r, sl_i, sl_l]; exact Nat.le_of_ble_eq_true rfl) ?_
  rw [show lv_args 0 [rv x0, .int x1] = [(0, rv x0), (1, .int x1)] by simp only [la_n, la_r, la_i, la_l] <;> rfl]
  have hX1 : ((l, σ, σf, .inl (some (.int r))) : Xt).2.2.1 = σf := rfl
  have hX2 : ((l, σ, σf, .inl (some (.int r))) : Xt).2.2.2 = .inl (some (.int r)) := rfl
  unfold fX11_digits at hf
  refine g_aload_n (j := 0) dX11_digits_0 rfl rfl ?_
  refine g_iload_n (j := 1) dX11_digits_1 rfl rfl ?_
  obtain ⟨_, h3, hf⟩ := ob hf
  obtain ⟨σ1, a2, eσ1, hf⟩ := cb_el hf
  refine g_callV_q dX11_digits_2 (wX11_partOfAnswer _ eσ1) (okX11_partOfAnswer _ (by decide) (by decide)) (ckK_el h3) hc15 t_457 t_459 s_X11_partOfAnswer rfl (Nat.le_trans (cat_le _) (Nat.le_of_ble_eq_true rfl)) rfl ?_
  obtain ⟨_, h6, hf⟩ := ob hf
  obtain ⟨σ4, v5, eσ4, hf⟩ := cb_el hf
  refine g_callVN_i dX11_digits_5 (wX3_digitCount _ eσ4) (okX3_digitCount _ (by decide) (by decide)) (ckK_el h6) hc7 t_461 t_463 s_X3_digitCount rfl (Nat.le_trans (cat_le _) (Nat.le_of_ble_eq_true rfl)) rfl ?_
  exact g_iret dX11_digits_8 rfl rfl hX2 hX1 hf

theorem okX11_digits (M : Mt) (h1 : 2 + 1 ≤ M.2.2.2.2.1) (h2 : 8 + (2 + 11) + 106 ≤ M.2.2.2.2.2.1) : CallOk M MtX11_digits yX11_digits 1 := ⟨t_456, h1, h2, ⟨by decide, by decide⟩, by decide +kernel, t_1⟩
abbrev MtX11_digit : Mt := (cX11_digit, 4, "ExactlySaid", (Option.some Jvm.ClassFile.FieldType.int), 8, 160, false)
set_option maxRecDepth 100000 in
set_option maxHeartbeats 4000000 in
theorem bX11_digit_18 {X : Xt} {σf : St} {r : (String ⊕ Int32)} (hX1 : X.2.2.1 = σf) (hX2 : X.2.2.2 = xo (ocI r)) {σ : St} (hf : fX11_digit_18 σ  = some (σf, r)) : G MtX11_digit X σ 18 [] [] := by
  unfold fX11_digit_18 at hf
  cases hf
  exact g_throw (cls := "java/lang/IndexOutOfBoundsException") (names := ["java/lang/RuntimeException", "java/lang/Exception"]) dX11_digit_18 dX11_digit_21 dX11_digit_22 dX11_digit_25 (by decide +kernel) (by decide +kernel) thw_147 thg_147 (by decide) (by decide) hX2 hX1 rfl

set_option maxRecDepth 100000 in
set_option maxHeartbeats 4000000 in
theorem wX11_digit (l : Launch) (hst : l.stackTraces = false) {σ σf : St} {x0 : Nat} {x1 : Int32} {x2 : Int32} {r : (String ⊕ Int32)} (hf : fX11_digit σ x0 x1 x2 = some (σf, r)) : ConT MtX11_digit yX11_digit l σ [rv x0, .int x1, .int x2] σf (ocI r) := by
  refine ConT.of hst (by decide +kernel) rfl (fun h => absurd (show false = true from h) (by decide)) (by simp only [sl_n, sl_r, sl_i, sl_l]; exact Nat.le_of_ble_eq_true rfl) ?_
  rw [show lv_args 0 [rv x0, .int x1, .int x2] = [(0, rv x0), (1, .int x1), (2, .int x2)] by simp only [la_n, la_r, la_i, la_l] <;> rfl]
  have hX1 : ((l, σ, σf, xo (ocI r)) : Xt).2.2.1 = σf := rfl
  have hX2 : ((l, σ, σf, xo (ocI r)) : Xt).2.2.2 = xo (ocI r) := rfl
  generalize ((l, σ, σf, xo (ocI r)) : Xt) = X at hX1 hX2 ⊢
  unfold fX11_digit at hf
  refine g_aload_n (j := 0) dX11_digit_0 rfl rfl ?_
  refine g_iload_n (j := 1) dX11_digit_1 rfl rfl ?_
  obtain ⟨_, h3, hf⟩ := ob hf
  obtain ⟨σ1, a2, eσ1, hf⟩ := cb_el hf
  refine g_callV_q dX11_digit_2 (wX11_partOfAnswer _ eσ1) (okX11_partOfAnswer _ (by decide) (by decide)) (ckK_el h3) hc15 t_457 t_459 s_X11_partOfAnswer rfl (Nat.le_trans (cat_le _) (Nat.le_of_ble_eq_true rfl)) rfl ?_
  refine g_astore_n (i := 3) (L' := [(3, rv a2), (0, rv x0), (1, .int x1), (2, .int x2)]) dX11_digit_5 rfl (Nat.le_of_ble_eq_true rfl) rfl ?_
  refine g_iload_n (j := 3) dX11_digit_6 rfl rfl ?_
  refine g_if_lt (tgt := 18) dX11_digit_7 (by decide) (fun c4 => ?_) (fun c4 => ?_)
  · rw [if_pos c4] at hf
    refine g_sub (L' := []) [] rfl ?_
    exact bX11_digit_18 hX1 hX2 hf
  · rw [if_neg c4] at hf
    refine g_iload_n (j := 3) dX11_digit_10 rfl rfl ?_
    refine g_aload_n (j := 0) dX11_digit_11 rfl rfl ?_
    obtain ⟨_, h7, hf⟩ := ob hf
    obtain ⟨σ5, v6, eσ5, hf⟩ := cb_el hf
    refine g_callVN_i dX11_digit_12 (wX3_digitCount _ eσ5) (okX3_digitCount _ (by decide) (by decide)) (ckK_el h7) hc7 t_461 t_463 s_X3_digitCount rfl (Nat.le_trans (cat_le _) (Nat.le_of_ble_eq_true rfl)) rfl ?_
    refine g_icmp_lt (tgt := 26) dX11_digit_15 (by decide) (fun c8 => ?_) (fun c8 => ?_)
    · rw [if_pos c8] at hf
      refine g_aload_n (j := 0) dX11_digit_26 rfl rfl ?_
      refine g_iload_n (j := 3) dX11_digit_27 rfl rfl ?_
      obtain ⟨_, h11, hf⟩ := ob hf
      obtain ⟨σ9, v10, eσ9, hf⟩ := cb_el hf
      refine g_callVN_i dX11_digit_28 (wX3_digitAt _ eσ9) (okX3_digitAt _ (by decide) (by decide)) (ckK_el h11) hc7 t_841 t_843 s_X3_digitAt rfl (Nat.le_trans (cat_le _) (Nat.le_of_ble_eq_true rfl)) rfl ?_
      cases hf
      exact g_iret dX11_digit_31 rfl rfl hX2 hX1 rfl
    · rw [if_neg c8] at hf
      refine g_sub (L' := []) [] rfl ?_
      exact bX11_digit_18 hX1 hX2 hf

theorem okX11_digit (M : Mt) (h1 : 8 + 1 ≤ M.2.2.2.2.1) (h2 : 8 + (4 + 11) + 160 ≤ M.2.2.2.2.2.1) : CallOk M MtX11_digit yX11_digit 2 := ⟨t_1656, h1, h2, ⟨by decide, by decide⟩, by decide +kernel, t_1⟩
abbrev MtX11_writeDigits : Mt := (cX11_writeDigits, 4, "ExactlySaid", none, 6, 206, false)
set_option maxRecDepth 100000 in
set_option maxHeartbeats 4000000 in
theorem bX11_writeDigits_7 {X : Xt} {σf : St} {r : Unit} (hX1 : X.2.2.1 = σf) (hX2 : X.2.2.2 = .inl (none)) : ∀ (n : Nat) (σ : St) (x0 : Nat) (x1 : Nat) (x2 : Int32) (x3 : Int32), fX11_writeDigits_7 n σ x0 x1 x2 x3 = some (σf, r) → G MtX11_writeDigits X σ 7 [(0, rv x0), (1, rv x1), (2, .int x2), (3, .int x3)] [] := by
  intro n
  induction n with
  | zero => intro σ x0 x1 x2 x3 hf; cases hf
  | succ n ih =>
    intro σ x0 x1 x2 x3 hf
    rw [fX11_writeDigits_7] at hf
    refine g_iload_n (j := 3) dX11_writeDigits_7 rfl rfl ?_
    refine g_iload_n (j := 2) dX11_writeDigits_8 rfl rfl ?_
    refine g_icmp_ge (tgt := 32) dX11_writeDigits_9 (by decide) (fun c1 => ?_) (fun c1 => ?_)
    · rw [if_pos c1] at hf
      exact g_vret dX11_writeDigits_32 rfl hX2 hX1 hf
    · rw [if_neg c1] at hf
      refine g_aload_n (j := 1) dX11_writeDigits_12 rfl rfl ?_
      refine g_bipush (v := 48) dX11_writeDigits_13 (by decide) ?_
      refine g_aload_n (j := 0) dX11_writeDigits_15 rfl rfl ?_
      refine g_iload_n (j := 3) dX11_writeDigits_16 rfl rfl ?_
      obtain ⟨_, h4, hf⟩ := ob hf
      obtain ⟨σ2, v3, eσ2, hf⟩ := cb_el hf
      refine g_callVN_i dX11_writeDigits_17 (wX3_digitAt _ eσ2) (okX3_digitAt _ (by decide) (by decide)) (ckK_el h4) hc7 t_841 t_843 s_X3_digitAt rfl (Nat.le_trans (cat_le _) (Nat.le_of_ble_eq_true rfl)) rfl ?_
      refine g_iadd dX11_writeDigits_20 ?_
      refine g_i2c dX11_writeDigits_21 rfl ?_
      obtain ⟨_, h7, hf⟩ := ob hf
      obtain ⟨σ5, a6, eσ5, hf⟩ := cb_el hf
      refine g_callV_q dX11_writeDigits_22 (wJ4_append_cf468 _ eσ5) (okJ4_append_cf468 _ (by decide) (by decide)) (ckK_el h7) hc1 t_816 t_817 t_818 rfl (Nat.le_trans (cat_le _) (Nat.le_of_ble_eq_true rfl)) rfl ?_
      refine g_pop dX11_writeDigits_25 (rv_cat _) ?_
      obtain ⟨v8, ev8, hf⟩ := nm_el hf
      refine g_iinc (L' := [(3, .int v8), (0, rv x0), (1, rv x1), (2, .int x2)]) (j := 3) (v := v8) dX11_writeDigits_26 rfl (by rw [ev8]; rfl) (Nat.le_of_ble_eq_true rfl) rfl ?_
      refine g_goto (tgt := 7) dX11_writeDigits_29 (by decide) ?_
      refine g_sub (L' := [(0, rv x0), (1, rv x1), (2, .int x2), (3, .int v8)]) [1, 2, 3, 0] rfl ?_
      exact ih _ _ _ _ _ hf

set_option maxRecDepth 100000 in
set_option maxHeartbeats 4000000 in
theorem wX11_writeDigits (l : Launch) {σ σf : St} {x0 : Nat} {x1 : Nat} {r : Unit} (hf : fX11_writeDigits σ x0 x1 = some (σf, r)) : Con MtX11_writeDigits yX11_writeDigits l σ [rv x0, rv x1] σf (none) := by
  refine Con.of (by decide +kernel) rfl (fun h => absurd (show false = true from h) (by decide)) (by simp only [sl_n, sl_r, sl_i, sl_l]; exact Nat.le_of_ble_eq_true rfl) ?_
  rw [show lv_args 0 [rv x0, rv x1] = [(0, rv x0), (1, rv x1)] by simp only [la_n, la_r, la_i, la_l] <;> rfl]
  have hX1 : ((l, σ, σf, .inl (none)) : Xt).2.2.1 = σf := rfl
  have hX2 : ((l, σ, σf, .inl (none)) : Xt).2.2.2 = .inl (none) := rfl
  unfold fX11_writeDigits at hf
  refine g_aload_n (j := 0) dX11_writeDigits_0 rfl rfl ?_
  obtain ⟨_, h3, hf⟩ := ob hf
  obtain ⟨σ1, v2, eσ1, hf⟩ := cb_el hf
  refine g_callVN_i dX11_writeDigits_1 (wX3_digitCount _ eσ1) (okX3_digitCount _ (by decide) (by decide)) (ckK_el h3) hc7 t_461 t_463 s_X3_digitCount rfl (Nat.le_trans (cat_le _) (Nat.le_of_ble_eq_true rfl)) rfl ?_
  refine g_istore_n (i := 2) (L' := [(2, .int v2), (0, rv x0), (1, rv x1)]) dX11_writeDigits_4 rfl (Nat.le_of_ble_eq_true rfl) (by simp [rv_cat]) ?_
  refine g_iconst (v := 0) dX11_writeDigits_5 (by decide) ?_
  refine g_istore_n (i := 3) (L' := [(3, .int 0), (2, .int v2), (0, rv x0), (1, rv x1)]) dX11_writeDigits_6 rfl (Nat.le_of_ble_eq_true rfl) rfl ?_
  refine g_sub (L' := [(0, rv x0), (1, rv x1), (2, .int v2), (3, .int 0)]) [2, 3, 1, 0] rfl ?_
  exact bX11_writeDigits_7 hX1 hX2 FU _ _ _ _ _ hf

theorem okX11_writeDigits (M : Mt) (h1 : 6 + 1 ≤ M.2.2.2.2.1) (h2 : 8 + (4 + 11) + 206 ≤ M.2.2.2.2.2.1) : CallOk M MtX11_writeDigits yX11_writeDigits 2 := ⟨t_840, h1, h2, ⟨by decide, by decide⟩, by decide +kernel, t_1⟩
abbrev MtX11_writeFraction : Mt := (cX11_writeFraction, 2, "ExactlySaid", none, 7, 229, false)
set_option maxRecDepth 100000 in
set_option maxHeartbeats 4000000 in
theorem bX11_writeFraction_14 {X : Xt} {σf : St} {r : Unit} (hX1 : X.2.2.1 = σf) (hX2 : X.2.2.2 = .inl (none)) {σ : St} {x0 : Nat} {x1 : Nat} (hf : fX11_writeFraction_14 σ x0 x1 = some (σf, r)) : G MtX11_writeFraction X σ 14 [(0, rv x0), (1, rv x1)] [] := by
  unfold fX11_writeFraction_14 at hf
  refine g_aload_n (j := 0) dX11_writeFraction_14 rfl rfl ?_
  obtain ⟨v1, ev1, hf⟩ := ob hf
  refine g_getFN dX11_writeFraction_15 ev1 t_80 hin5 hc5 (by decide) rfl ?_
  refine g_aload_n (j := 1) dX11_writeFraction_18 rfl rfl ?_
  obtain ⟨σ2, v3, eσ2, hf⟩ := cb_el hf
  refine g_callS_v dX11_writeFraction_19 (wX11_writeDigits _ eσ2) (okX11_writeDigits _ (by decide) (by decide)) t_838 t_839 rfl (Nat.le_trans (cat_le _) (Nat.le_of_ble_eq_true rfl)) rfl ?_
  refine g_aload_n (j := 0) dX11_writeFraction_22 rfl rfl ?_
  obtain ⟨_, h6, hf⟩ := ob hf
  obtain ⟨σ4, v5, eσ4, hf⟩ := cb_el hf
  refine g_callVN_i dX11_writeFraction_23 (wX1_isWhole _ eσ4) (okX1_isWhole _ (by decide) (by decide)) (ckK_el h6) hc5 t_850 t_852 s_X1_isWhole rfl (Nat.le_trans (cat_le _) (Nat.le_of_ble_eq_true rfl)) rfl ?_
  refine g_if_ne (tgt := 44) dX11_writeFraction_26 (by decide) (fun c7 => ?_) (fun c7 => ?_)
  · rw [if_neg c7] at hf
    exact g_vret dX11_writeFraction_44 rfl hX2 hX1 hf
  · rw [if_pos c7] at hf
    refine g_aload_n (j := 1) dX11_writeFraction_29 rfl rfl ?_
    refine g_bipush (v := 47) dX11_writeFraction_30 (by decide) ?_
    obtain ⟨_, h10, hf⟩ := ob hf
    obtain ⟨σ8, a9, eσ8, hf⟩ := cb_el hf
    refine g_callV_q dX11_writeFraction_32 (wJ4_append_cf468 _ eσ8) (okJ4_append_cf468 _ (by decide) (by decide)) (ckK_el h10) hc1 t_816 t_817 t_818 rfl (Nat.le_trans (cat_le _) (Nat.le_of_ble_eq_true rfl)) rfl ?_
    refine g_pop dX11_writeFraction_35 (rv_cat _) ?_
    refine g_aload_n (j := 0) dX11_writeFraction_36 rfl rfl ?_
    obtain ⟨v11, ev11, hf⟩ := ob hf
    refine g_getFN dX11_writeFraction_37 ev11 t_85 hin5 hc5 (by decide) rfl ?_
    refine g_aload_n (j := 1) dX11_writeFraction_40 rfl rfl ?_
    obtain ⟨σ12, v13, eσ12, hf⟩ := cb_el hf
    refine g_callS_v dX11_writeFraction_41 (wX11_writeDigits _ eσ12) (okX11_writeDigits _ (by decide) (by decide)) t_838 t_839 rfl (Nat.le_trans (cat_le _) (Nat.le_of_ble_eq_true rfl)) rfl ?_
    exact g_vret dX11_writeFraction_44 rfl hX2 hX1 hf

set_option maxRecDepth 100000 in
set_option maxHeartbeats 4000000 in
theorem wX11_writeFraction (l : Launch) {σ σf : St} {x0 : Nat} {x1 : Nat} {r : Unit} (hf : fX11_writeFraction σ x0 x1 = some (σf, r)) : Con MtX11_writeFraction yX11_writeFraction l σ [rv x0, rv x1] σf (none) := by
  refine Con.of (by decide +kernel) rfl (fun h => absurd (show false = true from h) (by decide)) (by simp only [sl_n, sl_r, sl_i, sl_l]; exact Nat.le_of_ble_eq_true rfl) ?_
  rw [show lv_args 0 [rv x0, rv x1] = [(0, rv x0), (1, rv x1)] by simp only [la_n, la_r, la_i, la_l] <;> rfl]
  have hX1 : ((l, σ, σf, .inl (none)) : Xt).2.2.1 = σf := rfl
  have hX2 : ((l, σ, σf, .inl (none)) : Xt).2.2.2 = .inl (none) := rfl
  unfold fX11_writeFraction at hf
  refine g_aload_n (j := 0) dX11_writeFraction_0 rfl rfl ?_
  obtain ⟨v1, ev1, hf⟩ := ob hf
  refine g_getIN dX11_writeFraction_1 ev1 t_75 hin5 hc5 (by decide) rfl ?_
  refine g_if_ge (tgt := 14) dX11_writeFraction_4 (by decide) (fun c2 => ?_) (fun c2 => ?_)
  · rw [if_pos c2] at hf
    exact bX11_writeFraction_14 hX1 hX2 hf
  · rw [if_neg c2] at hf
    refine g_aload_n (j := 1) dX11_writeFraction_7 rfl rfl ?_
    refine g_bipush (v := 45) dX11_writeFraction_8 (by decide) ?_
    obtain ⟨_, h5, hf⟩ := ob hf
    obtain ⟨σ3, a4, eσ3, hf⟩ := cb_el hf
    refine g_callV_q dX11_writeFraction_10 (wJ4_append_cf468 _ eσ3) (okJ4_append_cf468 _ (by decide) (by decide)) (ckK_el h5) hc1 t_816 t_817 t_818 rfl (Nat.le_trans (cat_le _) (Nat.le_of_ble_eq_true rfl)) rfl ?_
    refine g_pop dX11_writeFraction_13 (rv_cat _) ?_
    exact bX11_writeFraction_14 hX1 hX2 hf

theorem okX11_writeFraction (M : Mt) (h1 : 7 + 1 ≤ M.2.2.2.2.1) (h2 : 8 + (2 + 11) + 229 ≤ M.2.2.2.2.2.1) : CallOk M MtX11_writeFraction yX11_writeFraction 2 := ⟨t_815, h1, h2, ⟨by decide, by decide⟩, by decide +kernel, t_1⟩
abbrev MtX5_lengthAhead : Mt := (cX5_lengthAhead, 4, "ExactlySaid$Reckoner", (Option.some Jvm.ClassFile.FieldType.int), 2, 108, false)
set_option maxRecDepth 100000 in
set_option maxHeartbeats 4000000 in
theorem bX5_lengthAhead_81 {X : Xt} {σf : St} {r : Int32} (hX1 : X.2.2.1 = σf) (hX2 : X.2.2.2 = .inl (some (.int r))) {σ : St} {x2 : Int32} {x3 : Int32} (hf : fX5_lengthAhead_81 σ x2 x3 = some (σf, r)) : G MtX5_lengthAhead X σ 81 [(2, .int x2), (3, .int x3)] [] := by
  unfold fX5_lengthAhead_81 at hf
  refine g_iload_n (j := 0) dX5_lengthAhead_81 rfl rfl ?_
  refine g_iload_n (j := 1) dX5_lengthAhead_82 rfl rfl ?_
  refine g_mmax dX5_lengthAhead_83 t_875 t_357 t_15 t_358 (by decide) (by decide) (Nat.le_of_ble_eq_true rfl) ?_
  exact g_iret dX5_lengthAhead_86 rfl rfl hX2 hX1 hf

set_option maxRecDepth 100000 in
set_option maxHeartbeats 4000000 in
theorem bX5_lengthAhead_48 {X : Xt} {σf : St} {r : Int32} (hX1 : X.2.2.1 = σf) (hX2 : X.2.2.2 = .inl (some (.int r))) : ∀ (n : Nat) (σ : St) (x0 : Nat) (x2 : Int32) (x3 : Int32), fX5_lengthAhead_48 n σ x0 x2 x3 = some (σf, r) → G MtX5_lengthAhead X σ 48 [(0, rv x0), (2, .int x2), (3, .int x3)] [] := by
  intro n
  induction n with
  | zero => intro σ x0 x2 x3 hf; cases hf
  | succ n ih =>
    intro σ x0 x2 x3 hf
    rw [fX5_lengthAhead_48] at hf
    refine g_iload_n (j := 2) dX5_lengthAhead_48 rfl rfl ?_
    refine g_sipush (v := 1000) dX5_lengthAhead_49 (by decide) ?_
    refine g_icmp_ge (tgt := 81) dX5_lengthAhead_52 (by decide) (fun c1 => ?_) (fun c1 => ?_)
    · rw [if_pos c1] at hf
      refine g_sub (L' := [(2, .int x2), (3, .int x3)]) [1, 2] rfl ?_
      exact bX5_lengthAhead_81 hX1 hX2 hf
    · rw [if_neg c1] at hf
      refine g_aload_n (j := 0) dX5_lengthAhead_55 rfl rfl ?_
      obtain ⟨v2, ev2, hf⟩ := ob hf
      refine g_getF dX5_lengthAhead_56 ev2 t_170 hin9 hc9 (by decide) rfl ?_
      refine g_iconst (v := 5) dX5_lengthAhead_59 (by decide) ?_
      obtain ⟨_, h5, hf⟩ := ob hf
      obtain ⟨σ3, v4, eσ3, hf⟩ := cb_el hf
      refine g_callVN_i dX5_lengthAhead_60 (wX3_isMultiple _ eσ3) (okX3_isMultiple _ (by decide) (by decide)) (ckK_el h5) hc7 t_867 t_869 s_X3_isMultiple rfl (Nat.le_trans (cat_le _) (Nat.le_of_ble_eq_true rfl)) rfl ?_
      refine g_if_eq (tgt := 81) dX5_lengthAhead_63 (by decide) (fun c6 => ?_) (fun c6 => ?_)
      · rw [if_pos c6] at hf
        refine g_sub (L' := [(2, .int x2), (3, .int x3)]) [1, 2] rfl ?_
        exact bX5_lengthAhead_81 hX1 hX2 hf
      · rw [if_neg c6] at hf
        refine g_aload_n (j := 0) dX5_lengthAhead_66 rfl rfl ?_
        obtain ⟨v7, ev7, hf⟩ := ob hf
        refine g_getF dX5_lengthAhead_67 ev7 t_170 hin9 hc9 (by decide) rfl ?_
        refine g_iconst (v := 5) dX5_lengthAhead_70 (by decide) ?_
        obtain ⟨_, h10, hf⟩ := ob hf
        obtain ⟨σ8, v9, eσ8, hf⟩ := cb_el hf
        refine g_callVN_i dX5_lengthAhead_71 (wX3_lower _ eσ8) (okX3_lower _ (by decide) (by decide)) (ckK_el h10) hc7 t_871 t_873 s_X3_lower rfl (Nat.le_trans (cat_le _) (Nat.le_of_ble_eq_true rfl)) rfl ?_
        refine g_pop dX5_lengthAhead_74 rfl ?_
        obtain ⟨v11, ev11, hf⟩ := nm_el hf
        refine g_iinc (L' := [(3, .int v11), (0, rv x0), (2, .int x2)]) (j := 2) (v := v11) dX5_lengthAhead_75 rfl (by rw [ev11]; rfl) (Nat.le_of_ble_eq_true rfl) rfl ?_
        refine g_goto (tgt := 48) dX5_lengthAhead_78 (by decide) ?_
        refine g_sub (L' := [(0, rv x0), (2, .int x2), (3, .int v11)]) [1, 2, 0] rfl ?_
        exact ih _ _ _ _ hf

set_option maxRecDepth 100000 in
set_option maxHeartbeats 4000000 in
theorem bX5_lengthAhead_46 {X : Xt} {σf : St} {r : Int32} (hX1 : X.2.2.1 = σf) (hX2 : X.2.2.2 = .inl (some (.int r))) {σ : St} {x0 : Nat} {x2 : Int32} (hf : fX5_lengthAhead_46 σ x0 x2 = some (σf, r)) : G MtX5_lengthAhead X σ 46 [(0, rv x0), (2, .int x2)] [] := by
  unfold fX5_lengthAhead_46 at hf
  refine g_iconst (v := 0) dX5_lengthAhead_46 (by decide) ?_
  refine g_istore_n (i := 3) (L' := [(3, .int 0), (0, rv x0), (2, .int x2)]) dX5_lengthAhead_47 rfl (Nat.le_of_ble_eq_true rfl) rfl ?_
  refine g_sub (L' := [(0, rv x0), (2, .int x2), (3, .int 0)]) [1, 2, 0] rfl ?_
  exact bX5_lengthAhead_48 hX1 hX2 FU _ _ _ _ hf

set_option maxRecDepth 100000 in
set_option maxHeartbeats 4000000 in
theorem bX5_lengthAhead_13 {X : Xt} {σf : St} {r : Int32} (hX1 : X.2.2.1 = σf) (hX2 : X.2.2.2 = .inl (some (.int r))) : ∀ (n : Nat) (σ : St) (x0 : Nat) (x2 : Int32), fX5_lengthAhead_13 n σ x0 x2 = some (σf, r) → G MtX5_lengthAhead X σ 13 [(0, rv x0), (2, .int x2)] [] := by
  intro n
  induction n with
  | zero => intro σ x0 x2 hf; cases hf
  | succ n ih =>
    intro σ x0 x2 hf
    rw [fX5_lengthAhead_13] at hf
    refine g_iload_n (j := 1) dX5_lengthAhead_13 rfl rfl ?_
    refine g_sipush (v := 1000) dX5_lengthAhead_14 (by decide) ?_
    refine g_icmp_ge (tgt := 46) dX5_lengthAhead_17 (by decide) (fun c1 => ?_) (fun c1 => ?_)
    · rw [if_pos c1] at hf
      exact bX5_lengthAhead_46 hX1 hX2 hf
    · rw [if_neg c1] at hf
      refine g_aload_n (j := 0) dX5_lengthAhead_20 rfl rfl ?_
      obtain ⟨v2, ev2, hf⟩ := ob hf
      refine g_getF dX5_lengthAhead_21 ev2 t_170 hin9 hc9 (by decide) rfl ?_
      refine g_iconst (v := 2) dX5_lengthAhead_24 (by decide) ?_
      obtain ⟨_, h5, hf⟩ := ob hf
      obtain ⟨σ3, v4, eσ3, hf⟩ := cb_el hf
      refine g_callVN_i dX5_lengthAhead_25 (wX3_isMultiple _ eσ3) (okX3_isMultiple _ (by decide) (by decide)) (ckK_el h5) hc7 t_867 t_869 s_X3_isMultiple rfl (Nat.le_trans (cat_le _) (Nat.le_of_ble_eq_true rfl)) rfl ?_
      refine g_if_eq (tgt := 46) dX5_lengthAhead_28 (by decide) (fun c6 => ?_) (fun c6 => ?_)
      · rw [if_pos c6] at hf
        exact bX5_lengthAhead_46 hX1 hX2 hf
      · rw [if_neg c6] at hf
        refine g_aload_n (j := 0) dX5_lengthAhead_31 rfl rfl ?_
        obtain ⟨v7, ev7, hf⟩ := ob hf
        refine g_getF dX5_lengthAhead_32 ev7 t_170 hin9 hc9 (by decide) rfl ?_
        refine g_iconst (v := 2) dX5_lengthAhead_35 (by decide) ?_
        obtain ⟨_, h10, hf⟩ := ob hf
        obtain ⟨σ8, v9, eσ8, hf⟩ := cb_el hf
        refine g_callVN_i dX5_lengthAhead_36 (wX3_lower _ eσ8) (okX3_lower _ (by decide) (by decide)) (ckK_el h10) hc7 t_871 t_873 s_X3_lower rfl (Nat.le_trans (cat_le _) (Nat.le_of_ble_eq_true rfl)) rfl ?_
        refine g_pop dX5_lengthAhead_39 rfl ?_
        obtain ⟨v11, ev11, hf⟩ := nm_el hf
        refine g_iinc (L' := [(2, .int v11), (0, rv x0)]) (j := 1) (v := v11) dX5_lengthAhead_40 rfl (by rw [ev11]; rfl) (Nat.le_of_ble_eq_true rfl) rfl ?_
        refine g_goto (tgt := 13) dX5_lengthAhead_43 (by decide) ?_
        refine g_sub (L' := [(0, rv x0), (2, .int v11)]) [1, 0] rfl ?_
        exact ih _ _ _ hf

set_option maxRecDepth 100000 in
set_option maxHeartbeats 4000000 in
theorem wX5_lengthAhead (l : Launch) {σ σf : St} {x0 : Nat} {x1 : Nat} {r : Int32} (hf : fX5_lengthAhead σ x0 x1 = some (σf, r)) : Con MtX5_lengthAhead yX5_lengthAhead l σ [rv x0, rv x1] σf (some (.int r)) := by
  refine Con.of (by decide +kernel) rfl (fun h => absurd (show false = true from h) (by decide)) (by simp only [sl_n, sl_r, sl_i, sl_l]; exact Nat.le_of_ble_eq_true rfl) ?_
  rw [show lv_args 0 [rv x0, rv x1] = [(0, rv x0), (1, rv x1)] by simp only [la_n, la_r, la_i, la_l] <;> rfl]
  have hX1 : ((l, σ, σf, .inl (some (.int r))) : Xt).2.2.1 = σf := rfl
  have hX2 : ((l, σ, σf, .inl (some (.int r))) : Xt).2.2.2 = .inl (some (.int r)) := rfl
  unfold fX5_lengthAhead at hf
  refine g_aload_n (j := 0) dX5_lengthAhead_0 rfl rfl ?_
  obtain ⟨v1, ev1, hf⟩ := ob hf
  refine g_getF dX5_lengthAhead_1 ev1 t_170 hin9 hc9 (by decide) rfl ?_
  refine g_aload_n (j := 1) dX5_lengthAhead_4 rfl rfl ?_
  obtain ⟨v2, ev2, hf⟩ := ob hf
  refine g_getFN dX5_lengthAhead_5 ev2 t_82 hin5 hc5 (by decide) rfl ?_
  obtain ⟨_, h5, hf⟩ := ob hf
  obtain ⟨σ3, v4, eσ3, hf⟩ := cb_el hf
  refine g_callVN_v dX5_lengthAhead_8 (wX3_setTo _ eσ3) (okX3_setTo _ (by decide) (by decide)) (ckK_el h5) hc7 t_863 t_865 s_X3_setTo rfl (Nat.le_trans (cat_le _) (Nat.le_of_ble_eq_true rfl)) rfl ?_
  refine g_iconst (v := 0) dX5_lengthAhead_11 (by decide) ?_
  refine g_istore_n (i := 2) (L' := [(2, .int 0), (0, rv x0), (1, rv x1)]) dX5_lengthAhead_12 rfl (Nat.le_of_ble_eq_true rfl) (by simp [rv_cat]) ?_
  refine g_sub (L' := [(0, rv x0), (2, .int 0)]) [1, 0] rfl ?_
  exact bX5_lengthAhead_13 hX1 hX2 FU _ _ _ hf

theorem okX5_lengthAhead (M : Mt) (h1 : 2 + 1 ≤ M.2.2.2.2.1) (h2 : 8 + (4 + 11) + 108 ≤ M.2.2.2.2.2.1) : CallOk M MtX5_lengthAhead yX5_lengthAhead 1 := ⟨t_862, h1, h2, ⟨by decide, by decide⟩, by decide +kernel, t_9⟩
abbrev MtX5_lengthRepeating_ : Mt := (cX5_lengthRepeating_, 7, "ExactlySaid$Reckoner", (Option.some Jvm.ClassFile.FieldType.int), 1, 84, false)
set_option maxRecDepth 100000 in
set_option maxHeartbeats 4000000 in
theorem bX5_lengthRepeating__6 {X : Xt} {σf : St} {r : Int32} (hX1 : X.2.2.1 = σf) (hX2 : X.2.2.2 = .inl (some (.int r))) : ∀ (n : Nat) (σ : St) (x1 : Int64) (x3 : Int32) (x4 : Int64) (x6 : Int32), fX5_lengthRepeating__6 n σ x1 x3 x4 x6 = some (σf, r) → G MtX5_lengthRepeating_ X σ 6 [(1, .long x1), (3, .int x3), (4, .long x4), (6, .int x6)] [] := by
  intro n
  induction n with
  | zero => intro σ x1 x3 x4 x6 hf; cases hf
  | succ n ih =>
    intro σ x1 x3 x4 x6 hf
    rw [fX5_lengthRepeating__6] at hf
    refine g_iload (j := 3) dX5_lengthRepeating__6 rfl ?_
    refine g_iload_n (j := 1) dX5_lengthRepeating__8 rfl rfl ?_
    refine g_icmp_gt (tgt := 44) dX5_lengthRepeating__9 (by decide) (fun c1 => ?_) (fun c1 => ?_)
    · rw [if_pos c1] at hf
      refine g_iconst (v := (-1)) dX5_lengthRepeating__44 (by decide) ?_
      exact g_iret dX5_lengthRepeating__45 rfl rfl hX2 hX1 hf
    · rw [if_neg c1] at hf
      refine g_lload_n (j := 0) dX5_lengthRepeating__12 rfl rfl ?_
      refine g_lconst (v := 0) dX5_lengthRepeating__13 (by decide) ?_
      refine g_lcmp dX5_lengthRepeating__14 ?_
      refine g_if_le (tgt := 44) dX5_lengthRepeating__15 (by decide) (fun c2 => ?_) (fun c2 => ?_)
      · rw [if_pos c2] at hf
        refine g_iconst (v := (-1)) dX5_lengthRepeating__44 (by decide) ?_
        exact g_iret dX5_lengthRepeating__45 rfl rfl hX2 hX1 hf
      · rw [if_neg c2] at hf
        refine g_lload (j := 2) dX5_lengthRepeating__18 rfl ?_
        refine g_ldc2 (v := 10) dX5_lengthRepeating__20 t_894 ?_
        refine g_lmul dX5_lengthRepeating__23 ?_
        refine g_lload_n (j := 0) dX5_lengthRepeating__24 rfl rfl ?_
        obtain ⟨_, h3, hf⟩ := ob hf
        refine g_lrem dX5_lengthRepeating__25 (ckDL_el h3) ?_
        obtain ⟨v4, ev4, hf⟩ := nm_el hf
        refine g_topL ev4 ?_
        refine g_lstore (i := 4) (L' := [(4, .long v4), (1, .long x1), (3, .int x3), (6, .int x6)]) dX5_lengthRepeating__26 (Nat.le_of_ble_eq_true rfl) rfl ?_
        refine g_lload (j := 0) dX5_lengthRepeating__28 rfl ?_
        refine g_lconst (v := 1) dX5_lengthRepeating__30 (by decide) ?_
        refine g_lcmp dX5_lengthRepeating__31 ?_
        refine g_if_ne (tgt := 38) dX5_lengthRepeating__32 (by decide) (fun c5 => ?_) (fun c5 => ?_)
        · rw [if_neg c5] at hf
          obtain ⟨v6, ev6, hf⟩ := nm_el hf
          refine g_iinc (L' := [(6, .int v6), (4, .long v4), (1, .long x1), (3, .int x3)]) (j := 3) (v := v6) dX5_lengthRepeating__38 rfl (by rw [ev6]; rfl) (Nat.le_of_ble_eq_true rfl) rfl ?_
          refine g_goto (tgt := 6) dX5_lengthRepeating__41 (by decide) ?_
          refine g_sub (L' := [(1, .long x1), (3, .int x3), (4, .long v4), (6, .int v6)]) [2, 3, 1, 0] rfl ?_
          exact ih _ _ _ _ _ hf
        · rw [if_pos c5] at hf
          refine g_iload (j := 3) dX5_lengthRepeating__35 rfl ?_
          exact g_iret dX5_lengthRepeating__37 rfl rfl hX2 hX1 hf

set_option maxRecDepth 100000 in
set_option maxHeartbeats 4000000 in
theorem wX5_lengthRepeating_ (l : Launch) {σ σf : St} {x0 : Nat} {x1 : Int64} {x3 : Int32} {r : Int32} (hf : fX5_lengthRepeating_ σ x0 x1 x3 = some (σf, r)) : Con MtX5_lengthRepeating_ yX5_lengthRepeating_ l σ [rv x0, .long x1, .int x3] σf (some (.int r)) := by
  refine Con.of (by decide +kernel) rfl (fun h => absurd (show false = true from h) (by decide)) (by simp only [sl_n, sl_r, sl_i, sl_l]; exact Nat.le_of_ble_eq_true rfl) ?_
  rw [show lv_args 0 [rv x0, .long x1, .int x3] = [(0, rv x0), (1, .long x1), (3, .int x3)] by simp only [la_n, la_r, la_i, la_l] <;> rfl]
  have hX1 : ((l, σ, σf, .inl (some (.int r))) : Xt).2.2.1 = σf := rfl
  have hX2 : ((l, σ, σf, .inl (some (.int r))) : Xt).2.2.2 = .inl (some (.int r)) := rfl
  unfold fX5_lengthRepeating_ at hf
  refine g_lconst (v := 1) dX5_lengthRepeating__0 (by decide) ?_
  refine g_lstore (i := 4) (L' := [(4, .long 1), (0, rv x0), (1, .long x1), (3, .int x3)]) dX5_lengthRepeating__1 (Nat.le_of_ble_eq_true rfl) rfl ?_
  refine g_iconst (v := 1) dX5_lengthRepeating__3 (by decide) ?_
  refine g_istore (i := 6) (L' := [(6, .int 1), (4, .long 1), (0, rv x0), (1, .long x1), (3, .int x3)]) dX5_lengthRepeating__4 (Nat.le_of_ble_eq_true rfl) rfl ?_
  refine g_sub (L' := [(1, .long x1), (3, .int x3), (4, .long 1), (6, .int 1)]) [3, 4, 1, 0] rfl ?_
  exact bX5_lengthRepeating__6 hX1 hX2 FU _ _ _ _ _ hf

theorem okX5_lengthRepeating_ (M : Mt) (h1 : 1 + 1 ≤ M.2.2.2.2.1) (h2 : 8 + (7 + 11) + 84 ≤ M.2.2.2.2.2.1) : CallOk M MtX5_lengthRepeating_ yX5_lengthRepeating_ 2 := ⟨t_893, h1, h2, ⟨by decide, by decide⟩, by decide +kernel, t_9⟩
abbrev MtX5_lengthRepeating : Mt := (cX5_lengthRepeating, 4, "ExactlySaid$Reckoner", (Option.some Jvm.ClassFile.FieldType.int), 3, 167, false)
set_option maxRecDepth 100000 in
set_option maxHeartbeats 4000000 in
theorem bX5_lengthRepeating_113 {X : Xt} {σf : St} {r : Int32} (hX1 : X.2.2.1 = σf) (hX2 : X.2.2.2 = .inl (some (.int r))) {k59 : St → Nat → Int32 → Int32 → Option (St × Int32)} (hk59 : ∀ (σ : St) (x0 : Nat) (x1 : Int32) (x2 : Int32), k59 σ x0 x1 x2 = some (σf, r) → G MtX5_lengthRepeating X σ 59 [(0, rv x0), (1, .int x1), (2, .int x2)] []) {σ : St} {x0 : Nat} {x1 : Int32} {x2 : Int32} (hf : fX5_lengthRepeating_113 k59 σ x0 x1 x2 = some (σf, r)) : G MtX5_lengthRepeating X σ 113 [(0, rv x0), (1, .int x1), (2, .int x2)] [] := by
  unfold fX5_lengthRepeating_113 at hf
  refine g_aload_n (j := 0) dX5_lengthRepeating_113 rfl rfl ?_
  obtain ⟨v1, ev1, hf⟩ := ob hf
  refine g_getF dX5_lengthRepeating_114 ev1 t_168 hin9 hc9 (by decide) rfl ?_
  obtain ⟨_, h4, hf⟩ := ob hf
  obtain ⟨σ2, v3, eσ2, hf⟩ := cb_el hf
  refine g_callVN_i dX5_lengthRepeating_117 (wX3_isOne _ eσ2) (okX3_isOne _ (by decide) (by decide)) (ckK_el h4) hc7 t_880 t_856 s_X3_isOne rfl (Nat.le_trans (cat_le _) (Nat.le_of_ble_eq_true rfl)) rfl ?_
  refine g_if_eq (tgt := 125) dX5_lengthRepeating_120 (by decide) (fun c5 => ?_) (fun c5 => ?_)
  · rw [if_pos c5] at hf
    obtain ⟨v6, ev6, hf⟩ := nm_el hf
    refine g_iinc (L' := [(2, .int v6), (0, rv x0), (1, .int x1)]) (j := 2) (v := v6) dX5_lengthRepeating_125 rfl (by rw [ev6]; rfl) (Nat.le_of_ble_eq_true rfl) rfl ?_
    refine g_goto (tgt := 59) dX5_lengthRepeating_128 (by decide) ?_
    refine g_sub (L' := [(0, rv x0), (1, .int x1), (2, .int v6)]) [1, 2, 0] rfl ?_
    exact hk59 _ _ _ _ hf
  · rw [if_neg c5] at hf
    refine g_iload_n (j := 2) dX5_lengthRepeating_123 rfl rfl ?_
    exact g_iret dX5_lengthRepeating_124 rfl rfl hX2 hX1 hf

set_option maxRecDepth 100000 in
set_option maxHeartbeats 4000000 in
theorem bX5_lengthRepeating_76 {X : Xt} {σf : St} {r : Int32} (hX1 : X.2.2.1 = σf) (hX2 : X.2.2.2 = .inl (some (.int r))) {k59 : St → Nat → Int32 → Int32 → Option (St × Int32)} (hk59 : ∀ (σ : St) (x0 : Nat) (x1 : Int32) (x2 : Int32), k59 σ x0 x1 x2 = some (σf, r) → G MtX5_lengthRepeating X σ 59 [(0, rv x0), (1, .int x1), (2, .int x2)] []) : ∀ (n : Nat) (σ : St) (x0 : Nat) (x1 : Int32) (x2 : Int32) (x3 : Int32), fX5_lengthRepeating_76 k59 n σ x0 x1 x2 x3 = some (σf, r) → G MtX5_lengthRepeating X σ 76 [(0, rv x0), (1, .int x1), (2, .int x2), (3, .int x3)] [] := by
  intro n
  induction n with
  | zero => intro σ x0 x1 x2 x3 hf; cases hf
  | succ n ih =>
    intro σ x0 x1 x2 x3 hf
    rw [fX5_lengthRepeating_76] at hf
    refine g_iload_n (j := 3) dX5_lengthRepeating_76 rfl rfl ?_
    refine g_bipush (v := 9) dX5_lengthRepeating_77 (by decide) ?_
    refine g_icmp_ge (tgt := 113) dX5_lengthRepeating_79 (by decide) (fun c1 => ?_) (fun c1 => ?_)
    · rw [if_pos c1] at hf
      refine g_sub (L' := [(0, rv x0), (1, .int x1), (2, .int x2)]) [0, 1, 2] rfl ?_
      exact bX5_lengthRepeating_113 hX1 hX2 hk59 hf
    · rw [if_neg c1] at hf
      refine g_aload_n (j := 0) dX5_lengthRepeating_82 rfl rfl ?_
      obtain ⟨v2, ev2, hf⟩ := ob hf
      refine g_getF dX5_lengthRepeating_83 ev2 t_168 hin9 hc9 (by decide) rfl ?_
      refine g_aload_n (j := 0) dX5_lengthRepeating_86 rfl rfl ?_
      obtain ⟨v3, ev3, hf⟩ := ob hf
      refine g_getF dX5_lengthRepeating_87 ev3 t_170 hin9 hc9 (by decide) rfl ?_
      obtain ⟨_, h6, hf⟩ := ob hf
      obtain ⟨σ4, v5, eσ4, hf⟩ := cb_el hf
      refine g_callVN_i dX5_lengthRepeating_90 (wX3_against _ eσ4) (okX3_against _ (by decide) (by decide)) (ckK_el h6) hc7 t_908 t_910 s_X3_against rfl (Nat.le_trans (cat_le _) (Nat.le_of_ble_eq_true rfl)) rfl ?_
      refine g_if_lt (tgt := 113) dX5_lengthRepeating_93 (by decide) (fun c7 => ?_) (fun c7 => ?_)
      · rw [if_pos c7] at hf
        refine g_sub (L' := [(0, rv x0), (1, .int x1), (2, .int x2)]) [0, 1, 2] rfl ?_
        exact bX5_lengthRepeating_113 hX1 hX2 hk59 hf
      · rw [if_neg c7] at hf
        refine g_aload_n (j := 0) dX5_lengthRepeating_96 rfl rfl ?_
        obtain ⟨v8, ev8, hf⟩ := ob hf
        refine g_getF dX5_lengthRepeating_97 ev8 t_168 hin9 hc9 (by decide) rfl ?_
        refine g_aload_n (j := 0) dX5_lengthRepeating_100 rfl rfl ?_
        obtain ⟨v9, ev9, hf⟩ := ob hf
        refine g_getF dX5_lengthRepeating_101 ev9 t_170 hin9 hc9 (by decide) rfl ?_
        obtain ⟨_, h12, hf⟩ := ob hf
        obtain ⟨σ10, v11, eσ10, hf⟩ := cb_el hf
        refine g_callVN_v dX5_lengthRepeating_104 (wX3_minus _ eσ10) (okX3_minus _ (by decide) (by decide)) (ckK_el h12) hc7 t_912 t_914 s_X3_minus rfl (Nat.le_trans (cat_le _) (Nat.le_of_ble_eq_true rfl)) rfl ?_
        obtain ⟨v13, ev13, hf⟩ := nm_el hf
        refine g_iinc (L' := [(3, .int v13), (0, rv x0), (1, .int x1), (2, .int x2)]) (j := 3) (v := v13) dX5_lengthRepeating_107 rfl (by rw [ev13]; rfl) (Nat.le_of_ble_eq_true rfl) rfl ?_
        refine g_goto (tgt := 76) dX5_lengthRepeating_110 (by decide) ?_
        refine g_sub (L' := [(0, rv x0), (1, .int x1), (2, .int x2), (3, .int v13)]) [1, 2, 3, 0] rfl ?_
        exact ih _ _ _ _ _ hf

set_option maxRecDepth 100000 in
set_option maxHeartbeats 4000000 in
theorem bX5_lengthRepeating_59 {X : Xt} {σf : St} {r : Int32} (hX1 : X.2.2.1 = σf) (hX2 : X.2.2.2 = .inl (some (.int r))) : ∀ (n : Nat) (σ : St) (x0 : Nat) (x1 : Int32) (x2 : Int32), fX5_lengthRepeating_59 n σ x0 x1 x2 = some (σf, r) → G MtX5_lengthRepeating X σ 59 [(0, rv x0), (1, .int x1), (2, .int x2)] [] := by
  intro n
  induction n with
  | zero => intro σ x0 x1 x2 hf; cases hf
  | succ n ih =>
    intro σ x0 x1 x2 hf
    rw [fX5_lengthRepeating_59] at hf
    refine g_iload_n (j := 2) dX5_lengthRepeating_59 rfl rfl ?_
    refine g_iload_n (j := 1) dX5_lengthRepeating_60 rfl rfl ?_
    refine g_icmp_gt (tgt := 131) dX5_lengthRepeating_61 (by decide) (fun c1 => ?_) (fun c1 => ?_)
    · rw [if_pos c1] at hf
      refine g_iconst (v := (-1)) dX5_lengthRepeating_131 (by decide) ?_
      exact g_iret dX5_lengthRepeating_132 rfl rfl hX2 hX1 hf
    · rw [if_neg c1] at hf
      refine g_aload_n (j := 0) dX5_lengthRepeating_64 rfl rfl ?_
      obtain ⟨v2, ev2, hf⟩ := ob hf
      refine g_getF dX5_lengthRepeating_65 ev2 t_168 hin9 hc9 (by decide) rfl ?_
      refine g_bipush (v := 10) dX5_lengthRepeating_68 (by decide) ?_
      refine g_iconst (v := 0) dX5_lengthRepeating_70 (by decide) ?_
      obtain ⟨_, h5, hf⟩ := ob hf
      obtain ⟨σ3, v4, eσ3, hf⟩ := cb_el hf
      refine g_callVN_v dX5_lengthRepeating_71 (wX3_raise _ eσ3) (okX3_raise _ (by decide) (by decide)) (ckK_el h5) hc7 t_896 t_898 s_X3_raise rfl (Nat.le_trans (cat_le _) (Nat.le_of_ble_eq_true rfl)) rfl ?_
      refine g_iconst (v := 0) dX5_lengthRepeating_74 (by decide) ?_
      refine g_istore_n (i := 3) (L' := [(3, .int 0), (0, rv x0), (1, .int x1), (2, .int x2)]) dX5_lengthRepeating_75 rfl (Nat.le_of_ble_eq_true rfl) rfl ?_
      refine g_sub (L' := [(0, rv x0), (1, .int x1), (2, .int x2), (3, .int 0)]) [1, 2, 3, 0] rfl ?_
      exact bX5_lengthRepeating_76 hX1 hX2 (fun σ x0 x1 x2 hf => ih σ x0 x1 x2 hf) FU _ _ _ _ _ hf

set_option maxRecDepth 100000 in
set_option maxHeartbeats 4000000 in
theorem bX5_lengthRepeating_49 {X : Xt} {σf : St} {r : Int32} (hX1 : X.2.2.1 = σf) (hX2 : X.2.2.2 = .inl (some (.int r))) {σ : St} {x0 : Nat} {x1 : Int32} (hf : fX5_lengthRepeating_49 σ x0 x1 = some (σf, r)) : G MtX5_lengthRepeating X σ 49 [(0, rv x0), (1, .int x1)] [] := by
  unfold fX5_lengthRepeating_49 at hf
  refine g_aload_n (j := 0) dX5_lengthRepeating_49 rfl rfl ?_
  obtain ⟨v1, ev1, hf⟩ := ob hf
  refine g_getF dX5_lengthRepeating_50 ev1 t_168 hin9 hc9 (by decide) rfl ?_
  refine g_lconst (v := 1) dX5_lengthRepeating_53 (by decide) ?_
  obtain ⟨_, h4, hf⟩ := ob hf
  obtain ⟨σ2, v3, eσ2, hf⟩ := cb_el hf
  refine g_callVN_v dX5_lengthRepeating_54 (wX3_setSmall _ eσ2) (okX3_setSmall _ (by decide) (by decide)) (ckK_el h4) hc7 t_895 t_69 s_X3_setSmall rfl (Nat.le_trans (cat_le _) (Nat.le_of_ble_eq_true rfl)) rfl ?_
  refine g_iconst (v := 1) dX5_lengthRepeating_57 (by decide) ?_
  refine g_istore_n (i := 2) (L' := [(2, .int 1), (0, rv x0), (1, .int x1)]) dX5_lengthRepeating_58 rfl (Nat.le_of_ble_eq_true rfl) rfl ?_
  refine g_sub (L' := [(0, rv x0), (1, .int x1), (2, .int 1)]) [1, 2, 0] rfl ?_
  exact bX5_lengthRepeating_59 hX1 hX2 FU _ _ _ _ hf

set_option maxRecDepth 100000 in
set_option maxHeartbeats 4000000 in
theorem wX5_lengthRepeating (l : Launch) {σ σf : St} {x0 : Nat} {x1 : Int32} {r : Int32} (hf : fX5_lengthRepeating σ x0 x1 = some (σf, r)) : Con MtX5_lengthRepeating yX5_lengthRepeating l σ [rv x0, .int x1] σf (some (.int r)) := by
  refine Con.of (by decide +kernel) rfl (fun h => absurd (show false = true from h) (by decide)) (by simp only [sl_n, sl_r, sl_i, sl_l]; exact Nat.le_of_ble_eq_true rfl) ?_
  rw [show lv_args 0 [rv x0, .int x1] = [(0, rv x0), (1, .int x1)] by simp only [la_n, la_r, la_i, la_l] <;> rfl]
  have hX1 : ((l, σ, σf, .inl (some (.int r))) : Xt).2.2.1 = σf := rfl
  have hX2 : ((l, σ, σf, .inl (some (.int r))) : Xt).2.2.2 = .inl (some (.int r)) := rfl
  unfold fX5_lengthRepeating at hf
  refine g_aload_n (j := 0) dX5_lengthRepeating_0 rfl rfl ?_
  obtain ⟨v1, ev1, hf⟩ := ob hf
  refine g_getF dX5_lengthRepeating_1 ev1 t_170 hin9 hc9 (by decide) rfl ?_
  obtain ⟨_, h4, hf⟩ := ob hf
  obtain ⟨σ2, v3, eσ2, hf⟩ := cb_el hf
  refine g_callVN_i dX5_lengthRepeating_4 (wX3_isOne _ eσ2) (okX3_isOne _ (by decide) (by decide)) (ckK_el h4) hc7 t_880 t_856 s_X3_isOne rfl (Nat.le_trans (cat_le _) (Nat.le_of_ble_eq_true rfl)) rfl ?_
  refine g_if_eq (tgt := 12) dX5_lengthRepeating_7 (by decide) (fun c5 => ?_) (fun c5 => ?_)
  · rw [if_pos c5] at hf
    refine g_aload_n (j := 0) dX5_lengthRepeating_12 rfl rfl ?_
    obtain ⟨v6, ev6, hf⟩ := ob hf
    refine g_getF dX5_lengthRepeating_13 ev6 t_170 hin9 hc9 (by decide) rfl ?_
    obtain ⟨_, h9, hf⟩ := ob hf
    obtain ⟨σ7, v8, eσ7, hf⟩ := cb_el hf
    refine g_callVN_i dX5_lengthRepeating_16 (wX3_isLong _ eσ7) (okX3_isLong _ (by decide) (by decide)) (ckK_el h9) hc7 t_881 t_883 s_X3_isLong rfl (Nat.le_trans (cat_le _) (Nat.le_of_ble_eq_true rfl)) rfl ?_
    refine g_if_eq (tgt := 49) dX5_lengthRepeating_19 (by decide) (fun c10 => ?_) (fun c10 => ?_)
    · rw [if_pos c10] at hf
      exact bX5_lengthRepeating_49 hX1 hX2 hf
    · rw [if_neg c10] at hf
      refine g_aload_n (j := 0) dX5_lengthRepeating_22 rfl rfl ?_
      obtain ⟨v11, ev11, hf⟩ := ob hf
      refine g_getF dX5_lengthRepeating_23 ev11 t_170 hin9 hc9 (by decide) rfl ?_
      obtain ⟨_, h14, hf⟩ := ob hf
      obtain ⟨σ12, v13, eσ12, hf⟩ := cb_el hf
      refine g_callVN_l dX5_lengthRepeating_26 (wX3_asLong _ eσ12) (okX3_asLong _ (by decide) (by decide)) (ckK_el h14) hc7 t_885 t_887 s_X3_asLong rfl (Nat.le_trans (cat_le _) (Nat.le_of_ble_eq_true rfl)) rfl ?_
      refine g_ldc2 (v := 100000000000000000) dX5_lengthRepeating_29 t_889 ?_
      refine g_lcmp dX5_lengthRepeating_32 ?_
      refine g_if_ge (tgt := 49) dX5_lengthRepeating_33 (by decide) (fun c15 => ?_) (fun c15 => ?_)
      · rw [if_pos c15] at hf
        exact bX5_lengthRepeating_49 hX1 hX2 hf
      · rw [if_neg c15] at hf
        refine g_aload_n (j := 0) dX5_lengthRepeating_36 rfl rfl ?_
        refine g_aload_n (j := 0) dX5_lengthRepeating_37 rfl rfl ?_
        obtain ⟨v16, ev16, hf⟩ := ob hf
        refine g_getF dX5_lengthRepeating_38 ev16 t_170 hin9 hc9 (by decide) rfl ?_
        obtain ⟨_, h19, hf⟩ := ob hf
        obtain ⟨σ17, v18, eσ17, hf⟩ := cb_el hf
        refine g_callVN_l dX5_lengthRepeating_41 (wX3_asLong _ eσ17) (okX3_asLong _ (by decide) (by decide)) (ckK_el h19) hc7 t_885 t_887 s_X3_asLong rfl (Nat.le_trans (cat_le _) (Nat.le_of_ble_eq_true rfl)) rfl ?_
        refine g_iload_n (j := 1) dX5_lengthRepeating_44 rfl rfl ?_
        obtain ⟨_, h22, hf⟩ := ob hf
        obtain ⟨σ20, v21, eσ20, hf⟩ := cb_el hf
        refine g_callV_i dX5_lengthRepeating_45 (wX5_lengthRepeating_ _ eσ20) (okX5_lengthRepeating_ _ (by decide) (by decide)) (ckK_el h22) hc9 t_890 t_892 s_X5_lengthRepeating_ rfl (Nat.le_trans (cat_le _) (Nat.le_of_ble_eq_true rfl)) rfl ?_
        exact g_iret dX5_lengthRepeating_48 rfl rfl hX2 hX1 hf
  · rw [if_neg c5] at hf
    refine g_iconst (v := 0) dX5_lengthRepeating_10 (by decide) ?_
    exact g_iret dX5_lengthRepeating_11 rfl rfl hX2 hX1 hf

theorem okX5_lengthRepeating (M : Mt) (h1 : 3 + 1 ≤ M.2.2.2.2.1) (h2 : 8 + (4 + 11) + 167 ≤ M.2.2.2.2.2.1) : CallOk M MtX5_lengthRepeating yX5_lengthRepeating 1 := ⟨t_879, h1, h2, ⟨by decide, by decide⟩, by decide +kernel, t_9⟩
abbrev MtX5_startDecimals : Mt := (cX5_startDecimals, 2, "ExactlySaid$Reckoner", (Option.some (Jvm.ClassFile.FieldType.object "ExactlySaid$Nat")), 4, 195, false)
set_option maxRecDepth 100000 in
set_option maxHeartbeats 4000000 in
theorem wX5_startDecimals (l : Launch) {σ σf : St} {x0 : Nat} {x1 : Nat} {r : Nat} (hf : fX5_startDecimals σ x0 x1 = some (σf, r)) : Con MtX5_startDecimals yX5_startDecimals l σ [rv x0, rv x1] σf (some (rv r)) := by
  refine Con.of (by decide +kernel) rfl (fun h => absurd (show false = true from h) (by decide)) (by simp only [sl_n, sl_r, sl_i, sl_l]; exact Nat.le_of_ble_eq_true rfl) ?_
  rw [show lv_args 0 [rv x0, rv x1] = [(0, rv x0), (1, rv x1)] by simp only [la_n, la_r, la_i, la_l] <;> rfl]
  have hX1 : ((l, σ, σf, .inl (some (rv r))) : Xt).2.2.1 = σf := rfl
  have hX2 : ((l, σ, σf, .inl (some (rv r))) : Xt).2.2.2 = .inl (some (rv r)) := rfl
  unfold fX5_startDecimals at hf
  refine g_aload_n (j := 0) dX5_startDecimals_0 rfl rfl ?_
  refine g_aload_n (j := 1) dX5_startDecimals_1 rfl rfl ?_
  obtain ⟨v1, ev1, hf⟩ := ob hf
  refine g_getFN dX5_startDecimals_2 ev1 t_77 hin5 hc5 (by decide) rfl ?_
  refine g_aload_n (j := 1) dX5_startDecimals_5 rfl rfl ?_
  obtain ⟨v2, ev2, hf⟩ := ob hf
  refine g_getFN dX5_startDecimals_6 ev2 t_82 hin5 hc5 (by decide) rfl ?_
  refine g_aload_n (j := 0) dX5_startDecimals_9 rfl rfl ?_
  obtain ⟨v3, ev3, hf⟩ := ob hf
  refine g_getF dX5_startDecimals_10 ev3 t_166 hin9 hc9 (by decide) rfl ?_
  refine g_aload_n (j := 0) dX5_startDecimals_13 rfl rfl ?_
  obtain ⟨v4, ev4, hf⟩ := ob hf
  refine g_getF dX5_startDecimals_14 ev4 t_171 hin9 hc9 (by decide) rfl ?_
  obtain ⟨_, h7, hf⟩ := ob hf
  obtain ⟨σ5, v6, eσ5, hf⟩ := cb_el hf
  refine g_callV_v dX5_startDecimals_17 (wX5_divide _ eσ5) (okX5_divide _ (by decide) (by decide)) (ckK_el h7) hc9 t_929 t_931 s_X5_divide rfl (Nat.le_trans (cat_le _) (Nat.le_of_ble_eq_true rfl)) rfl ?_
  refine g_aload_n (j := 0) dX5_startDecimals_20 rfl rfl ?_
  obtain ⟨v8, ev8, hf⟩ := ob hf
  refine g_getF dX5_startDecimals_21 ev8 t_166 hin9 hc9 (by decide) rfl ?_
  exact g_aret dX5_startDecimals_24 rfl rfl hX2 hX1 hf

theorem okX5_startDecimals (M : Mt) (h1 : 4 + 1 ≤ M.2.2.2.2.1) (h2 : 8 + (2 + 11) + 195 ≤ M.2.2.2.2.2.1) : CallOk M MtX5_startDecimals yX5_startDecimals 1 := ⟨t_928, h1, h2, ⟨by decide, by decide⟩, by decide +kernel, t_9⟩
abbrev MtX5_nextDecimals : Mt := (cX5_nextDecimals, 3, "ExactlySaid$Reckoner", (Option.some Jvm.ClassFile.FieldType.int), 4, 195, false)
set_option maxRecDepth 100000 in
set_option maxHeartbeats 4000000 in
theorem wX5_nextDecimals (l : Launch) {σ σf : St} {x0 : Nat} {x1 : Nat} {x2 : Int32} {r : Int32} (hf : fX5_nextDecimals σ x0 x1 x2 = some (σf, r)) : Con MtX5_nextDecimals yX5_nextDecimals l σ [rv x0, rv x1, .int x2] σf (some (.int r)) := by
  refine Con.of (by decide +kernel) rfl (fun h => absurd (show false = true from h) (by decide)) (by simp only [sl_n, sl_r, sl_i, sl_l]; exact Nat.le_of_ble_eq_true rfl) ?_
  rw [show lv_args 0 [rv x0, rv x1, .int x2] = [(0, rv x0), (1, rv x1), (2, .int x2)] by simp only [la_n, la_r, la_i, la_l] <;> rfl]
  have hX1 : ((l, σ, σf, .inl (some (.int r))) : Xt).2.2.1 = σf := rfl
  have hX2 : ((l, σ, σf, .inl (some (.int r))) : Xt).2.2.2 = .inl (some (.int r)) := rfl
  unfold fX5_nextDecimals at hf
  refine g_iload_n (j := 2) dX5_nextDecimals_0 rfl rfl ?_
  refine g_if_lt (tgt := 12) dX5_nextDecimals_1 (by decide) (fun c1 => ?_) (fun c1 => ?_)
  · rw [if_pos c1] at hf
    refine g_iconst (v := 0) dX5_nextDecimals_12 (by decide) ?_
    exact g_iret dX5_nextDecimals_13 rfl rfl hX2 hX1 hf
  · rw [if_neg c1] at hf
    refine g_iload_n (j := 2) dX5_nextDecimals_4 rfl rfl ?_
    refine g_getsTN dX5_nextDecimals_5 t_952 ?_
    obtain ⟨v2, ev2, hf⟩ := ob hf
    refine g_alen dX5_nextDecimals_8 ev2 ?_
    refine g_icmp_lt (tgt := 14) dX5_nextDecimals_9 (by decide) (fun c3 => ?_) (fun c3 => ?_)
    · rw [if_pos c3] at hf
      refine g_aload_n (j := 0) dX5_nextDecimals_14 rfl rfl ?_
      obtain ⟨v4, ev4, hf⟩ := ob hf
      refine g_getF dX5_nextDecimals_15 ev4 t_171 hin9 hc9 (by decide) rfl ?_
      refine g_getsTN dX5_nextDecimals_18 t_952 ?_
      refine g_iload_n (j := 2) dX5_nextDecimals_21 rfl rfl ?_
      obtain ⟨v5, ev5, hf⟩ := ob hf
      refine g_iald dX5_nextDecimals_22 ev5 ?_
      refine g_iconst (v := 0) dX5_nextDecimals_23 (by decide) ?_
      obtain ⟨_, h8, hf⟩ := ob hf
      obtain ⟨σ6, v7, eσ6, hf⟩ := cb_el hf
      refine g_callVN_v dX5_nextDecimals_24 (wX3_raise _ eσ6) (okX3_raise _ (by decide) (by decide)) (ckK_el h8) hc7 t_896 t_898 s_X3_raise rfl (Nat.le_trans (cat_le _) (Nat.le_of_ble_eq_true rfl)) rfl ?_
      refine g_aload_n (j := 0) dX5_nextDecimals_27 rfl rfl ?_
      refine g_aload_n (j := 0) dX5_nextDecimals_28 rfl rfl ?_
      obtain ⟨v9, ev9, hf⟩ := ob hf
      refine g_getF dX5_nextDecimals_29 ev9 t_171 hin9 hc9 (by decide) rfl ?_
      refine g_aload_n (j := 1) dX5_nextDecimals_32 rfl rfl ?_
      obtain ⟨v10, ev10, hf⟩ := ob hf
      refine g_getFN dX5_nextDecimals_33 ev10 t_82 hin5 hc5 (by decide) rfl ?_
      refine g_aload_n (j := 0) dX5_nextDecimals_36 rfl rfl ?_
      obtain ⟨v11, ev11, hf⟩ := ob hf
      refine g_getF dX5_nextDecimals_37 ev11 t_159 hin9 hc9 (by decide) rfl ?_
      refine g_aload_n (j := 0) dX5_nextDecimals_40 rfl rfl ?_
      obtain ⟨v12, ev12, hf⟩ := ob hf
      refine g_getF dX5_nextDecimals_41 ev12 t_171 hin9 hc9 (by decide) rfl ?_
      obtain ⟨_, h15, hf⟩ := ob hf
      obtain ⟨σ13, v14, eσ13, hf⟩ := cb_el hf
      refine g_callV_v dX5_nextDecimals_44 (wX5_divide _ eσ13) (okX5_divide _ (by decide) (by decide)) (ckK_el h15) hc9 t_929 t_931 s_X5_divide rfl (Nat.le_trans (cat_le _) (Nat.le_of_ble_eq_true rfl)) rfl ?_
      refine g_aload_n (j := 0) dX5_nextDecimals_47 rfl rfl ?_
      obtain ⟨v16, ev16, hf⟩ := ob hf
      refine g_getF dX5_nextDecimals_48 ev16 t_159 hin9 hc9 (by decide) rfl ?_
      refine g_iconst (v := 0) dX5_nextDecimals_51 (by decide) ?_
      obtain ⟨_, h19, hf⟩ := ob hf
      obtain ⟨σ17, v18, eσ17, hf⟩ := cb_el hf
      refine g_callVN_i dX5_nextDecimals_52 (wX3_limb _ eσ17) (okX3_limb _ (by decide) (by decide)) (ckK_el h19) hc7 t_954 t_848 s_X3_limb rfl (Nat.le_trans (cat_le _) (Nat.le_of_ble_eq_true rfl)) rfl ?_
      exact g_iret dX5_nextDecimals_55 rfl rfl hX2 hX1 hf
    · rw [if_neg c3] at hf
      refine g_iconst (v := 0) dX5_nextDecimals_12 (by decide) ?_
      exact g_iret dX5_nextDecimals_13 rfl rfl hX2 hX1 hf

theorem okX5_nextDecimals (M : Mt) (h1 : 4 + 1 ≤ M.2.2.2.2.1) (h2 : 8 + (3 + 11) + 195 ≤ M.2.2.2.2.2.1) : CallOk M MtX5_nextDecimals yX5_nextDecimals 2 := ⟨t_951, h1, h2, ⟨by decide, by decide⟩, by decide +kernel, t_9⟩
abbrev MtX11_writeDecimals : Mt := (cX11_writeDecimals, 4, "ExactlySaid", none, 7, 229, false)
set_option maxRecDepth 100000 in
set_option maxHeartbeats 4000000 in
theorem bX11_writeDecimals_78 {X : Xt} {σf : St} {r : Unit} (hX1 : X.2.2.1 = σf) (hX2 : X.2.2.2 = .inl (none)) {k56 : St → Nat → Int32 → Int32 → Int32 → Option (St × Unit)} (hk56 : ∀ (σ : St) (x0 : Nat) (x1 : Int32) (x2 : Int32) (x3 : Int32), k56 σ x0 x1 x2 x3 = some (σf, r) → G MtX11_writeDecimals X σ 56 [(0, rv x0), (1, .int x1), (2, .int x2), (3, .int x3)] []) {σ : St} {x0 : Nat} {x1 : Int32} {x2 : Int32} {x3 : Int32} (hf : fX11_writeDecimals_78 k56 σ x0 x1 x2 x3 = some (σf, r)) : G MtX11_writeDecimals X σ 78 [(0, rv x0), (1, .int x1), (2, .int x2), (3, .int x3)] [] := by
  unfold fX11_writeDecimals_78 at hf
  refine g_aload_n (j := 0) dX11_writeDecimals_78 rfl rfl ?_
  obtain ⟨v1, ev1, hf⟩ := ob hf
  refine g_getF dX11_writeDecimals_79 ev1 t_385 hin15 hc15 (by decide) rfl ?_
  refine g_bipush (v := 48) dX11_writeDecimals_82 (by decide) ?_
  refine g_aload_n (j := 0) dX11_writeDecimals_84 rfl rfl ?_
  obtain ⟨v2, ev2, hf⟩ := ob hf
  refine g_getF dX11_writeDecimals_85 ev2 t_391 hin15 hc15 (by decide) rfl ?_
  refine g_aload_n (j := 0) dX11_writeDecimals_88 rfl rfl ?_
  obtain ⟨v3, ev3, hf⟩ := ob hf
  refine g_getF dX11_writeDecimals_89 ev3 t_383 hin15 hc15 (by decide) rfl ?_
  refine g_iconst (v := 1) dX11_writeDecimals_92 (by decide) ?_
  obtain ⟨_, h6, hf⟩ := ob hf
  obtain ⟨σ4, v5, eσ4, hf⟩ := cb_el hf
  refine g_callVN_i dX11_writeDecimals_93 (wX5_nextDecimals _ eσ4) (okX5_nextDecimals _ (by decide) (by decide)) (ckK_el h6) hc9 t_948 t_950 s_X5_nextDecimals rfl (Nat.le_trans (cat_le _) (Nat.le_of_ble_eq_true rfl)) rfl ?_
  refine g_iadd dX11_writeDecimals_96 ?_
  refine g_i2c dX11_writeDecimals_97 rfl ?_
  obtain ⟨_, h9, hf⟩ := ob hf
  obtain ⟨σ7, a8, eσ7, hf⟩ := cb_el hf
  refine g_callV_q dX11_writeDecimals_98 (wJ4_append_cf468 _ eσ7) (okJ4_append_cf468 _ (by decide) (by decide)) (ckK_el h9) hc1 t_816 t_817 t_818 rfl (Nat.le_trans (cat_le _) (Nat.le_of_ble_eq_true rfl)) rfl ?_
  refine g_pop dX11_writeDecimals_101 (rv_cat _) ?_
  obtain ⟨v10, ev10, hf⟩ := nm_el hf
  refine g_iinc (L' := [(3, .int v10), (0, rv x0), (1, .int x1), (2, .int x2)]) (j := 3) (v := v10) dX11_writeDecimals_102 rfl (by rw [ev10]; rfl) (Nat.le_of_ble_eq_true rfl) rfl ?_
  refine g_goto (tgt := 56) dX11_writeDecimals_105 (by decide) ?_
  refine g_sub (L' := [(0, rv x0), (1, .int x1), (2, .int x2), (3, .int v10)]) [1, 2, 3, 0] rfl ?_
  exact hk56 _ _ _ _ _ hf

set_option maxRecDepth 100000 in
set_option maxHeartbeats 4000000 in
theorem bX11_writeDecimals_56 {X : Xt} {σf : St} {r : Unit} (hX1 : X.2.2.1 = σf) (hX2 : X.2.2.2 = .inl (none)) : ∀ (n : Nat) (σ : St) (x0 : Nat) (x1 : Int32) (x2 : Int32) (x3 : Int32), fX11_writeDecimals_56 n σ x0 x1 x2 x3 = some (σf, r) → G MtX11_writeDecimals X σ 56 [(0, rv x0), (1, .int x1), (2, .int x2), (3, .int x3)] [] := by
  intro n
  induction n with
  | zero => intro σ x0 x1 x2 x3 hf; cases hf
  | succ n ih =>
    intro σ x0 x1 x2 x3 hf
    rw [fX11_writeDecimals_56] at hf
    refine g_iload_n (j := 3) dX11_writeDecimals_56 rfl rfl ?_
    refine g_iload_n (j := 1) dX11_writeDecimals_57 rfl rfl ?_
    refine g_iload_n (j := 2) dX11_writeDecimals_58 rfl rfl ?_
    refine g_iadd dX11_writeDecimals_59 ?_
    refine g_icmp_ge (tgt := 108) dX11_writeDecimals_60 (by decide) (fun c1 => ?_) (fun c1 => ?_)
    · rw [if_pos c1] at hf
      refine g_iload_n (j := 2) dX11_writeDecimals_108 rfl rfl ?_
      refine g_if_le (tgt := 122) dX11_writeDecimals_109 (by decide) (fun c2 => ?_) (fun c2 => ?_)
      · rw [if_pos c2] at hf
        exact g_vret dX11_writeDecimals_122 rfl hX2 hX1 hf
      · rw [if_neg c2] at hf
        refine g_aload_n (j := 0) dX11_writeDecimals_112 rfl rfl ?_
        obtain ⟨v3, ev3, hf⟩ := ob hf
        refine g_getF dX11_writeDecimals_113 ev3 t_385 hin15 hc15 (by decide) rfl ?_
        refine g_bipush (v := 93) dX11_writeDecimals_116 (by decide) ?_
        obtain ⟨_, h6, hf⟩ := ob hf
        obtain ⟨σ4, a5, eσ4, hf⟩ := cb_el hf
        refine g_callV_q dX11_writeDecimals_118 (wJ4_append_cf468 _ eσ4) (okJ4_append_cf468 _ (by decide) (by decide)) (ckK_el h6) hc1 t_816 t_817 t_818 rfl (Nat.le_trans (cat_le _) (Nat.le_of_ble_eq_true rfl)) rfl ?_
        refine g_pop dX11_writeDecimals_121 (rv_cat _) ?_
        exact g_vret dX11_writeDecimals_122 rfl hX2 hX1 hf
    · rw [if_neg c1] at hf
      refine g_iload_n (j := 3) dX11_writeDecimals_63 rfl rfl ?_
      refine g_iload_n (j := 1) dX11_writeDecimals_64 rfl rfl ?_
      refine g_icmp_ne (tgt := 78) dX11_writeDecimals_65 (by decide) (fun c7 => ?_) (fun c7 => ?_)
      · rw [if_neg c7] at hf
        exact bX11_writeDecimals_78 hX1 hX2 (fun σ x0 x1 x2 x3 hf => ih σ x0 x1 x2 x3 hf) hf
      · rw [if_pos c7] at hf
        refine g_aload_n (j := 0) dX11_writeDecimals_68 rfl rfl ?_
        obtain ⟨v8, ev8, hf⟩ := ob hf
        refine g_getF dX11_writeDecimals_69 ev8 t_385 hin15 hc15 (by decide) rfl ?_
        refine g_bipush (v := 91) dX11_writeDecimals_72 (by decide) ?_
        obtain ⟨_, h11, hf⟩ := ob hf
        obtain ⟨σ9, a10, eσ9, hf⟩ := cb_el hf
        refine g_callV_q dX11_writeDecimals_74 (wJ4_append_cf468 _ eσ9) (okJ4_append_cf468 _ (by decide) (by decide)) (ckK_el h11) hc1 t_816 t_817 t_818 rfl (Nat.le_trans (cat_le _) (Nat.le_of_ble_eq_true rfl)) rfl ?_
        refine g_pop dX11_writeDecimals_77 (rv_cat _) ?_
        exact bX11_writeDecimals_78 hX1 hX2 (fun σ x0 x1 x2 x3 hf => ih σ x0 x1 x2 x3 hf) hf

set_option maxRecDepth 100000 in
set_option maxHeartbeats 4000000 in
theorem bX11_writeDecimals_54 {X : Xt} {σf : St} {r : Unit} (hX1 : X.2.2.1 = σf) (hX2 : X.2.2.2 = .inl (none)) {σ : St} {x0 : Nat} {x1 : Int32} {x2 : Int32} (hf : fX11_writeDecimals_54 σ x0 x1 x2 = some (σf, r)) : G MtX11_writeDecimals X σ 54 [(0, rv x0), (1, .int x1), (2, .int x2)] [] := by
  unfold fX11_writeDecimals_54 at hf
  refine g_iconst (v := 0) dX11_writeDecimals_54 (by decide) ?_
  refine g_istore_n (i := 3) (L' := [(3, .int 0), (0, rv x0), (1, .int x1), (2, .int x2)]) dX11_writeDecimals_55 rfl (Nat.le_of_ble_eq_true rfl) rfl ?_
  refine g_sub (L' := [(0, rv x0), (1, .int x1), (2, .int x2), (3, .int 0)]) [1, 2, 3, 0] rfl ?_
  exact bX11_writeDecimals_56 hX1 hX2 FU _ _ _ _ _ hf

set_option maxRecDepth 100000 in
set_option maxHeartbeats 4000000 in
theorem bX11_writeDecimals_20 {X : Xt} {σf : St} {r : Unit} (hX1 : X.2.2.1 = σf) (hX2 : X.2.2.2 = .inl (none)) {σ : St} {x0 : Nat} {x1 : Int32} {x2 : Int32} (hf : fX11_writeDecimals_20 σ x0 x1 x2 = some (σf, r)) : G MtX11_writeDecimals X σ 20 [(0, rv x0), (1, .int x1), (2, .int x2)] [] := by
  unfold fX11_writeDecimals_20 at hf
  refine g_aload_n (j := 0) dX11_writeDecimals_20 rfl rfl ?_
  obtain ⟨v1, ev1, hf⟩ := ob hf
  refine g_getF dX11_writeDecimals_21 ev1 t_391 hin15 hc15 (by decide) rfl ?_
  refine g_aload_n (j := 0) dX11_writeDecimals_24 rfl rfl ?_
  obtain ⟨v2, ev2, hf⟩ := ob hf
  refine g_getF dX11_writeDecimals_25 ev2 t_383 hin15 hc15 (by decide) rfl ?_
  obtain ⟨_, h5, hf⟩ := ob hf
  obtain ⟨σ3, a4, eσ3, hf⟩ := cb_el hf
  refine g_callVN_q dX11_writeDecimals_28 (wX5_startDecimals _ eσ3) (okX5_startDecimals _ (by decide) (by decide)) (ckK_el h5) hc9 t_925 t_927 s_X5_startDecimals rfl (Nat.le_trans (cat_le _) (Nat.le_of_ble_eq_true rfl)) rfl ?_
  refine g_aload_n (j := 0) dX11_writeDecimals_31 rfl rfl ?_
  obtain ⟨v6, ev6, hf⟩ := ob hf
  refine g_getF dX11_writeDecimals_32 ev6 t_385 hin15 hc15 (by decide) rfl ?_
  obtain ⟨σ7, v8, eσ7, hf⟩ := cb_el hf
  refine g_callS_v dX11_writeDecimals_35 (wX11_writeDigits _ eσ7) (okX11_writeDigits _ (by decide) (by decide)) t_838 t_839 rfl (Nat.le_trans (cat_le _) (Nat.le_of_ble_eq_true rfl)) rfl ?_
  refine g_iload_n (j := 1) dX11_writeDecimals_38 rfl rfl ?_
  refine g_iload_n (j := 2) dX11_writeDecimals_39 rfl rfl ?_
  refine g_iadd dX11_writeDecimals_40 ?_
  refine g_if_le (tgt := 54) dX11_writeDecimals_41 (by decide) (fun c9 => ?_) (fun c9 => ?_)
  · rw [if_pos c9] at hf
    exact bX11_writeDecimals_54 hX1 hX2 hf
  · rw [if_neg c9] at hf
    refine g_aload_n (j := 0) dX11_writeDecimals_44 rfl rfl ?_
    obtain ⟨v10, ev10, hf⟩ := ob hf
    refine g_getF dX11_writeDecimals_45 ev10 t_385 hin15 hc15 (by decide) rfl ?_
    refine g_bipush (v := 46) dX11_writeDecimals_48 (by decide) ?_
    obtain ⟨_, h13, hf⟩ := ob hf
    obtain ⟨σ11, a12, eσ11, hf⟩ := cb_el hf
    refine g_callV_q dX11_writeDecimals_50 (wJ4_append_cf468 _ eσ11) (okJ4_append_cf468 _ (by decide) (by decide)) (ckK_el h13) hc1 t_816 t_817 t_818 rfl (Nat.le_trans (cat_le _) (Nat.le_of_ble_eq_true rfl)) rfl ?_
    refine g_pop dX11_writeDecimals_53 (rv_cat _) ?_
    exact bX11_writeDecimals_54 hX1 hX2 hf

set_option maxRecDepth 100000 in
set_option maxHeartbeats 4000000 in
theorem wX11_writeDecimals (l : Launch) {σ σf : St} {x0 : Nat} {x1 : Int32} {x2 : Int32} {r : Unit} (hf : fX11_writeDecimals σ x0 x1 x2 = some (σf, r)) : Con MtX11_writeDecimals yX11_writeDecimals l σ [rv x0, .int x1, .int x2] σf (none) := by
  refine Con.of (by decide +kernel) rfl (fun h => absurd (show false = true from h) (by decide)) (by simp only [sl_n, sl_r, sl_i, sl_l]; exact Nat.le_of_ble_eq_true rfl) ?_
  rw [show lv_args 0 [rv x0, .int x1, .int x2] = [(0, rv x0), (1, .int x1), (2, .int x2)] by simp only [la_n, la_r, la_i, la_l] <;> rfl]
  have hX1 : ((l, σ, σf, .inl (none)) : Xt).2.2.1 = σf := rfl
  have hX2 : ((l, σ, σf, .inl (none)) : Xt).2.2.2 = .inl (none) := rfl
  unfold fX11_writeDecimals at hf
  refine g_aload_n (j := 0) dX11_writeDecimals_0 rfl rfl ?_
  obtain ⟨v1, ev1, hf⟩ := ob hf
  refine g_getF dX11_writeDecimals_1 ev1 t_383 hin15 hc15 (by decide) rfl ?_
  obtain ⟨v2, ev2, hf⟩ := ob hf
  refine g_getIN dX11_writeDecimals_4 ev2 t_75 hin5 hc5 (by decide) rfl ?_
  refine g_if_ge (tgt := 20) dX11_writeDecimals_7 (by decide) (fun c3 => ?_) (fun c3 => ?_)
  · rw [if_pos c3] at hf
    exact bX11_writeDecimals_20 hX1 hX2 hf
  · rw [if_neg c3] at hf
    refine g_aload_n (j := 0) dX11_writeDecimals_10 rfl rfl ?_
    obtain ⟨v4, ev4, hf⟩ := ob hf
    refine g_getF dX11_writeDecimals_11 ev4 t_385 hin15 hc15 (by decide) rfl ?_
    refine g_bipush (v := 45) dX11_writeDecimals_14 (by decide) ?_
    obtain ⟨_, h7, hf⟩ := ob hf
    obtain ⟨σ5, a6, eσ5, hf⟩ := cb_el hf
    refine g_callV_q dX11_writeDecimals_16 (wJ4_append_cf468 _ eσ5) (okJ4_append_cf468 _ (by decide) (by decide)) (ckK_el h7) hc1 t_816 t_817 t_818 rfl (Nat.le_trans (cat_le _) (Nat.le_of_ble_eq_true rfl)) rfl ?_
    refine g_pop dX11_writeDecimals_19 (rv_cat _) ?_
    exact bX11_writeDecimals_20 hX1 hX2 hf

theorem okX11_writeDecimals (M : Mt) (h1 : 7 + 1 ≤ M.2.2.2.2.1) (h2 : 8 + (4 + 11) + 229 ≤ M.2.2.2.2.2.1) : CallOk M MtX11_writeDecimals yX11_writeDecimals 2 := ⟨t_924, h1, h2, ⟨by decide, by decide⟩, by decide +kernel, t_1⟩
abbrev MtX11_write : Mt := (cX11_write, 4, "ExactlySaid", (Option.some Jvm.ClassFile.FieldType.int), 8, 252, false)
set_option maxRecDepth 100000 in
set_option maxHeartbeats 4000000 in
theorem wX11_write (l : Launch) {σ σf : St} {x0 : Nat} {x1 : Int32} {r : Int32} (hf : fX11_write σ x0 x1 = some (σf, r)) : Con MtX11_write yX11_write l σ [rv x0, .int x1] σf (some (.int r)) := by
  refine Con.of (by decide +kernel) rfl (fun h => absurd (show false = true from h) (by decide)) (by simp only [sl_n, sl_r, sl_i, sl_l]; exact Nat.le_of_ble_eq_true rfl) ?_
  rw [show lv_args 0 [rv x0, .int x1] = [(0, rv x0), (1, .int x1)] by simp only [la_n, la_r, la_i, la_l] <;> rfl]
  have hX1 : ((l, σ, σf, .inl (some (.int r))) : Xt).2.2.1 = σf := rfl
  have hX2 : ((l, σ, σf, .inl (some (.int r))) : Xt).2.2.2 = .inl (some (.int r)) := rfl
  unfold fX11_write at hf
  refine g_iload_n (j := 1) dX11_write_0 rfl rfl ?_
  refine g_if_ne (tgt := 31) dX11_write_1 (by decide) (fun c1 => ?_) (fun c1 => ?_)
  · rw [if_neg c1] at hf
    refine g_aload_n (j := 0) dX11_write_31 rfl rfl ?_
    obtain ⟨v2, ev2, hf⟩ := ob hf
    refine g_getF dX11_write_32 ev2 t_391 hin15 hc15 (by decide) rfl ?_
    refine g_aload_n (j := 0) dX11_write_35 rfl rfl ?_
    obtain ⟨v3, ev3, hf⟩ := ob hf
    refine g_getF dX11_write_36 ev3 t_383 hin15 hc15 (by decide) rfl ?_
    obtain ⟨_, h6, hf⟩ := ob hf
    obtain ⟨σ4, v5, eσ4, hf⟩ := cb_el hf
    refine g_callVN_i dX11_write_39 (wX5_lengthAhead _ eσ4) (okX5_lengthAhead _ (by decide) (by decide)) (ckK_el h6) hc9 t_859 t_861 s_X5_lengthAhead rfl (Nat.le_trans (cat_le _) (Nat.le_of_ble_eq_true rfl)) rfl ?_
    refine g_istore_n (i := 2) (L' := [(2, .int v5), (0, rv x0), (1, .int x1)]) dX11_write_42 rfl (Nat.le_of_ble_eq_true rfl) rfl ?_
    refine g_aload_n (j := 1) dX11_write_43 rfl rfl ?_
    obtain ⟨v7, ev7, hf⟩ := ob hf
    refine g_getF dX11_write_44 ev7 t_391 hin15 hc15 (by decide) rfl ?_
    refine g_bipush (v := 100) dX11_write_47 (by decide) ?_
    obtain ⟨_, h10, hf⟩ := ob hf
    obtain ⟨σ8, v9, eσ8, hf⟩ := cb_el hf
    refine g_callVN_i dX11_write_49 (wX5_lengthRepeating _ eσ8) (okX5_lengthRepeating _ (by decide) (by decide)) (ckK_el h10) hc9 t_876 t_878 s_X5_lengthRepeating rfl (Nat.le_trans (cat_le _) (Nat.le_of_ble_eq_true rfl)) rfl ?_
    refine g_istore_n (i := 3) (L' := [(3, .int v9), (2, .int v5), (0, rv x0), (1, .int x1)]) dX11_write_52 rfl (Nat.le_of_ble_eq_true rfl) rfl ?_
    refine g_iload_n (j := 0) dX11_write_53 rfl rfl ?_
    refine g_iconst (v := (-1)) dX11_write_54 (by decide) ?_
    refine g_icmp_eq (tgt := 66) dX11_write_55 (by decide) (fun c11 => ?_) (fun c11 => ?_)
    · rw [if_pos c11] at hf
      refine g_iconst (v := (-1)) dX11_write_66 (by decide) ?_
      exact g_iret dX11_write_67 rfl rfl hX2 hX1 hf
    · rw [if_neg c11] at hf
      refine g_iload_n (j := 1) dX11_write_58 rfl rfl ?_
      refine g_iload_n (j := 0) dX11_write_59 rfl rfl ?_
      refine g_iadd dX11_write_60 ?_
      refine g_bipush (v := 100) dX11_write_61 (by decide) ?_
      refine g_icmp_le (tgt := 68) dX11_write_63 (by decide) (fun c12 => ?_) (fun c12 => ?_)
      · rw [if_pos c12] at hf
        refine g_aload_n (j := 2) dX11_write_68 rfl rfl ?_
        obtain ⟨v13, ev13, hf⟩ := ob hf
        refine g_getF dX11_write_69 ev13 t_385 hin15 hc15 (by decide) rfl ?_
        refine g_iconst (v := 0) dX11_write_72 (by decide) ?_
        obtain ⟨_, h16, hf⟩ := ob hf
        obtain ⟨σ14, v15, eσ14, hf⟩ := cb_el hf
        refine g_callV_v dX11_write_73 (wJ4_setLength_d00df _ eσ14) (okJ4_setLength_d00df _ (by decide) (by decide)) (ckK_el h16) hc1 t_469 t_470 t_471 rfl (Nat.le_trans (cat_le _) (Nat.le_of_ble_eq_true rfl)) rfl ?_
        refine g_aload_n (j := 2) dX11_write_76 rfl rfl ?_
        refine g_iload_n (j := 1) dX11_write_77 rfl rfl ?_
        refine g_iload_n (j := 0) dX11_write_78 rfl rfl ?_
        obtain ⟨_, h19, hf⟩ := ob hf
        obtain ⟨σ17, v18, eσ17, hf⟩ := cb_el hf
        refine g_callV_v dX11_write_79 (wX11_writeDecimals _ eσ17) (okX11_writeDecimals _ (by decide) (by decide)) (ckK_el h19) hc15 t_921 t_923 s_X11_writeDecimals rfl (Nat.le_trans (cat_le _) (Nat.le_of_ble_eq_true rfl)) rfl ?_
        refine g_aload_n (j := 2) dX11_write_82 rfl rfl ?_
        obtain ⟨v20, ev20, hf⟩ := ob hf
        refine g_getF dX11_write_83 ev20 t_385 hin15 hc15 (by decide) rfl ?_
        obtain ⟨_, h23, hf⟩ := ob hf
        obtain ⟨σ21, v22, eσ21, hf⟩ := cb_el hf
        refine g_callV_i dX11_write_86 (wJ4_length_8abf5 _ eσ21) (okJ4_length_8abf5 _ (by decide) (by decide)) (ckK_el h23) hc1 t_858 t_649 t_2788 rfl (Nat.le_trans (cat_le _) (Nat.le_of_ble_eq_true rfl)) rfl ?_
        exact g_iret dX11_write_89 rfl rfl hX2 hX1 hf
      · rw [if_neg c12] at hf
        refine g_iconst (v := (-1)) dX11_write_66 (by decide) ?_
        exact g_iret dX11_write_67 rfl rfl hX2 hX1 hf
  · rw [if_pos c1] at hf
    refine g_aload_n (j := 0) dX11_write_4 rfl rfl ?_
    obtain ⟨v24, ev24, hf⟩ := ob hf
    refine g_getF dX11_write_5 ev24 t_385 hin15 hc15 (by decide) rfl ?_
    refine g_iconst (v := 0) dX11_write_8 (by decide) ?_
    obtain ⟨_, h27, hf⟩ := ob hf
    obtain ⟨σ25, v26, eσ25, hf⟩ := cb_el hf
    refine g_callV_v dX11_write_9 (wJ4_setLength_d00df _ eσ25) (okJ4_setLength_d00df _ (by decide) (by decide)) (ckK_el h27) hc1 t_469 t_470 t_471 rfl (Nat.le_trans (cat_le _) (Nat.le_of_ble_eq_true rfl)) rfl ?_
    refine g_aload_n (j := 0) dX11_write_12 rfl rfl ?_
    obtain ⟨v28, ev28, hf⟩ := ob hf
    refine g_getF dX11_write_13 ev28 t_383 hin15 hc15 (by decide) rfl ?_
    refine g_aload_n (j := 0) dX11_write_16 rfl rfl ?_
    obtain ⟨v29, ev29, hf⟩ := ob hf
    refine g_getF dX11_write_17 ev29 t_385 hin15 hc15 (by decide) rfl ?_
    obtain ⟨σ30, v31, eσ30, hf⟩ := cb_el hf
    refine g_callS_v dX11_write_20 (wX11_writeFraction _ eσ30) (okX11_writeFraction _ (by decide) (by decide)) t_813 t_814 rfl (Nat.le_trans (cat_le _) (Nat.le_of_ble_eq_true rfl)) rfl ?_
    refine g_aload_n (j := 0) dX11_write_23 rfl rfl ?_
    obtain ⟨v32, ev32, hf⟩ := ob hf
    refine g_getF dX11_write_24 ev32 t_385 hin15 hc15 (by decide) rfl ?_
    obtain ⟨_, h35, hf⟩ := ob hf
    obtain ⟨σ33, v34, eσ33, hf⟩ := cb_el hf
    refine g_callV_i dX11_write_27 (wJ4_length_8abf5 _ eσ33) (okJ4_length_8abf5 _ (by decide) (by decide)) (ckK_el h35) hc1 t_858 t_649 t_2788 rfl (Nat.le_trans (cat_le _) (Nat.le_of_ble_eq_true rfl)) rfl ?_
    exact g_iret dX11_write_30 rfl rfl hX2 hX1 hf

theorem okX11_write (M : Mt) (h1 : 8 + 1 ≤ M.2.2.2.2.1) (h2 : 8 + (4 + 11) + 252 ≤ M.2.2.2.2.2.1) : CallOk M MtX11_write yX11_write 1 := ⟨t_468, h1, h2, ⟨by decide, by decide⟩, by decide +kernel, t_1⟩
abbrev MtX11_writtenAt : Mt := (cX11_writtenAt, 2, "ExactlySaid", (Option.some Jvm.ClassFile.FieldType.char), 8, 196, false)
set_option maxRecDepth 100000 in
set_option maxHeartbeats 4000000 in
theorem bX11_writtenAt_15 {X : Xt} {σf : St} {r : (String ⊕ Int32)} (hX1 : X.2.2.1 = σf) (hX2 : X.2.2.2 = xo (ocI r)) {σ : St} (hf : fX11_writtenAt_15 σ  = some (σf, r)) : G MtX11_writtenAt X σ 15 [] [] := by
  unfold fX11_writtenAt_15 at hf
  cases hf
  exact g_throw (cls := "java/lang/IndexOutOfBoundsException") (names := ["java/lang/RuntimeException", "java/lang/Exception"]) dX11_writtenAt_15 dX11_writtenAt_18 dX11_writtenAt_19 dX11_writtenAt_22 (by decide +kernel) (by decide +kernel) thw_147 thg_147 (by decide) (by decide) hX2 hX1 rfl

set_option maxRecDepth 100000 in
set_option maxHeartbeats 4000000 in
theorem wX11_writtenAt (l : Launch) (hst : l.stackTraces = false) {σ σf : St} {x0 : Nat} {x1 : Int32} {r : (String ⊕ Int32)} (hf : fX11_writtenAt σ x0 x1 = some (σf, r)) : ConT MtX11_writtenAt yX11_writtenAt l σ [rv x0, .int x1] σf (ocI r) := by
  refine ConT.of hst (by decide +kernel) rfl (fun h => absurd (show false = true from h) (by decide)) (by simp only [sl_n, sl_r, sl_i, sl_l]; exact Nat.le_of_ble_eq_true rfl) ?_
  rw [show lv_args 0 [rv x0, .int x1] = [(0, rv x0), (1, .int x1)] by simp only [la_n, la_r, la_i, la_l] <;> rfl]
  have hX1 : ((l, σ, σf, xo (ocI r)) : Xt).2.2.1 = σf := rfl
  have hX2 : ((l, σ, σf, xo (ocI r)) : Xt).2.2.2 = xo (ocI r) := rfl
  generalize ((l, σ, σf, xo (ocI r)) : Xt) = X at hX1 hX2 ⊢
  unfold fX11_writtenAt at hf
  refine g_iload_n (j := 1) dX11_writtenAt_0 rfl rfl ?_
  refine g_if_lt (tgt := 15) dX11_writtenAt_1 (by decide) (fun c1 => ?_) (fun c1 => ?_)
  · rw [if_pos c1] at hf
    refine g_sub (L' := []) [] rfl ?_
    exact bX11_writtenAt_15 hX1 hX2 hf
  · rw [if_neg c1] at hf
    refine g_iload_n (j := 1) dX11_writtenAt_4 rfl rfl ?_
    refine g_aload_n (j := 0) dX11_writtenAt_5 rfl rfl ?_
    obtain ⟨v2, ev2, hf⟩ := ob hf
    refine g_getF dX11_writtenAt_6 ev2 t_385 hin15 hc15 (by decide) rfl ?_
    obtain ⟨_, h5, hf⟩ := ob hf
    obtain ⟨σ3, v4, eσ3, hf⟩ := cb_el hf
    refine g_callV_i dX11_writtenAt_9 (wJ4_length_8abf5 _ eσ3) (okJ4_length_8abf5 _ (by decide) (by decide)) (ckK_el h5) hc1 t_858 t_649 t_2788 rfl (Nat.le_trans (cat_le _) (Nat.le_of_ble_eq_true rfl)) rfl ?_
    refine g_icmp_lt (tgt := 23) dX11_writtenAt_12 (by decide) (fun c6 => ?_) (fun c6 => ?_)
    · rw [if_pos c6] at hf
      refine g_aload_n (j := 0) dX11_writtenAt_23 rfl rfl ?_
      obtain ⟨v7, ev7, hf⟩ := ob hf
      refine g_getF dX11_writtenAt_24 ev7 t_385 hin15 hc15 (by decide) rfl ?_
      refine g_iload_n (j := 1) dX11_writtenAt_27 rfl rfl ?_
      obtain ⟨_, h10, hf⟩ := ob hf
      obtain ⟨σ8, v9, eσ8, hf⟩ := cb_el hf
      refine g_callV_i dX11_writtenAt_28 (wJ4_charAt_5068e _ eσ8) (okJ4_charAt_5068e _ (by decide) (by decide)) (ckK_el h10) hc1 t_1239 t_1240 t_1241 rfl (Nat.le_trans (cat_le _) (Nat.le_of_ble_eq_true rfl)) rfl ?_
      obtain ⟨_, h11, hf⟩ := ob hf
      cases hf
      exact g_iret dX11_writtenAt_31 rfl (ckC_el h11) hX2 hX1 rfl
    · rw [if_neg c6] at hf
      refine g_sub (L' := []) [] rfl ?_
      exact bX11_writtenAt_15 hX1 hX2 hf

theorem okX11_writtenAt (M : Mt) (h1 : 8 + 1 ≤ M.2.2.2.2.1) (h2 : 8 + (2 + 11) + 196 ≤ M.2.2.2.2.2.1) : CallOk M MtX11_writtenAt yX11_writtenAt 1 := ⟨t_1663, h1, h2, ⟨by decide, by decide⟩, by decide +kernel, t_1⟩
abbrev MtX11_isSlot : Mt := (cX11_isSlot, 2, "ExactlySaid", (Option.some Jvm.ClassFile.FieldType.boolean), 1, 84, false)
set_option maxRecDepth 100000 in
set_option maxHeartbeats 4000000 in
theorem wX11_isSlot (l : Launch) {σ σf : St} {x0 : Nat} {x1 : Int32} {r : Int32} (hf : fX11_isSlot σ x0 x1 = some (σf, r)) : Con MtX11_isSlot yX11_isSlot l σ [rv x0, .int x1] σf (some (.int r)) := by
  refine Con.of (by decide +kernel) rfl (fun h => absurd (show false = true from h) (by decide)) (by simp only [sl_n, sl_r, sl_i, sl_l]; exact Nat.le_of_ble_eq_true rfl) ?_
  rw [show lv_args 0 [rv x0, .int x1] = [(0, rv x0), (1, .int x1)] by simp only [la_n, la_r, la_i, la_l] <;> rfl]
  have hX1 : ((l, σ, σf, .inl (some (.int r))) : Xt).2.2.1 = σf := rfl
  have hX2 : ((l, σ, σf, .inl (some (.int r))) : Xt).2.2.2 = .inl (some (.int r)) := rfl
  unfold fX11_isSlot at hf
  refine g_iload_n (j := 1) dX11_isSlot_0 rfl rfl ?_
  refine g_if_lt (tgt := 17) dX11_isSlot_1 (by decide) (fun c1 => ?_) (fun c1 => ?_)
  · rw [if_pos c1] at hf
    refine g_iconst (v := 0) dX11_isSlot_17 (by decide) ?_
    exact g_iret dX11_isSlot_18 rfl (by decide) hX2 hX1 hf
  · rw [if_neg c1] at hf
    refine g_iload_n (j := 1) dX11_isSlot_4 rfl rfl ?_
    refine g_aload_n (j := 0) dX11_isSlot_5 rfl rfl ?_
    obtain ⟨v2, ev2, hf⟩ := ob hf
    refine g_getF dX11_isSlot_6 ev2 t_384 hin15 hc15 (by decide) rfl ?_
    obtain ⟨v3, ev3, hf⟩ := ob hf
    refine g_alen dX11_isSlot_9 ev3 ?_
    refine g_icmp_ge (tgt := 17) dX11_isSlot_10 (by decide) (fun c4 => ?_) (fun c4 => ?_)
    · rw [if_pos c4] at hf
      refine g_iconst (v := 0) dX11_isSlot_17 (by decide) ?_
      exact g_iret dX11_isSlot_18 rfl (by decide) hX2 hX1 hf
    · rw [if_neg c4] at hf
      refine g_iconst (v := 1) dX11_isSlot_13 (by decide) ?_
      refine g_goto (tgt := 18) dX11_isSlot_14 (by decide) ?_
      exact g_iret dX11_isSlot_18 rfl (by decide) hX2 hX1 hf

theorem okX11_isSlot (M : Mt) (h1 : 1 + 1 ≤ M.2.2.2.2.1) (h2 : 8 + (2 + 11) + 84 ≤ M.2.2.2.2.2.1) : CallOk M MtX11_isSlot yX11_isSlot 1 := ⟨t_1674, h1, h2, ⟨by decide, by decide⟩, by decide +kernel, t_1⟩
abbrev MtX11_keep : Mt := (cX11_keep, 3, "ExactlySaid", (Option.some Jvm.ClassFile.FieldType.int), 8, 160, false)
set_option maxRecDepth 100000 in
set_option maxHeartbeats 4000000 in
theorem wX11_keep (l : Launch) (hst : l.stackTraces = false) {σ σf : St} {x0 : Nat} {x1 : Int32} {r : (String ⊕ Int32)} (hf : fX11_keep σ x0 x1 = some (σf, r)) : ConT MtX11_keep yX11_keep l σ [rv x0, .int x1] σf (ocI r) := by
  refine ConT.of hst (by decide +kernel) rfl (fun h => absurd (show false = true from h) (by decide)) (by simp only [sl_n, sl_r, sl_i, sl_l]; exact Nat.le_of_ble_eq_true rfl) ?_
  rw [show lv_args 0 [rv x0, .int x1] = [(0, rv x0), (1, .int x1)] by simp only [la_n, la_r, la_i, la_l] <;> rfl]
  have hX1 : ((l, σ, σf, xo (ocI r)) : Xt).2.2.1 = σf := rfl
  have hX2 : ((l, σ, σf, xo (ocI r)) : Xt).2.2.2 = xo (ocI r) := rfl
  generalize ((l, σ, σf, xo (ocI r)) : Xt) = X at hX1 hX2 ⊢
  unfold fX11_keep at hf
  refine g_aload_n (j := 0) dX11_keep_0 rfl rfl ?_
  refine g_iload_n (j := 1) dX11_keep_1 rfl rfl ?_
  obtain ⟨_, h3, hf⟩ := ob hf
  obtain ⟨σ1, v2, eσ1, hf⟩ := cb_el hf
  refine g_callV_i dX11_keep_2 (wX11_isSlot _ eσ1) (okX11_isSlot _ (by decide) (by decide)) (ckK_el h3) hc15 t_1671 t_1673 s_X11_isSlot rfl (Nat.le_trans (cat_le _) (Nat.le_of_ble_eq_true rfl)) rfl ?_
  refine g_if_ne (tgt := 16) dX11_keep_5 (by decide) (fun c4 => ?_) (fun c4 => ?_)
  · rw [if_neg c4] at hf
    refine g_aload_n (j := 0) dX11_keep_16 rfl rfl ?_
    obtain ⟨v5, ev5, hf⟩ := ob hf
    refine g_getF dX11_keep_17 ev5 t_384 hin15 hc15 (by decide) rfl ?_
    refine g_iload_n (j := 1) dX11_keep_20 rfl rfl ?_
    obtain ⟨v6, ev6, hf⟩ := ob hf
    refine g_aald dX11_keep_21 (by decide) rfl ev6 ?_
    obtain ⟨v7, ev7, hf⟩ := ob hf
    refine g_getIN dX11_keep_22 ev7 t_75 hin5 hc5 (by decide) rfl ?_
    refine g_istore_n (i := 2) (L' := [(2, .int v7), (0, rv x0), (1, .int x1)]) dX11_keep_25 rfl (Nat.le_of_ble_eq_true rfl) rfl ?_
    refine g_aload_n (j := 1) dX11_keep_26 rfl rfl ?_
    obtain ⟨v8, ev8, hf⟩ := ob hf
    refine g_getF dX11_keep_27 ev8 t_384 hin15 hc15 (by decide) rfl ?_
    refine g_iload_n (j := 2) dX11_keep_30 rfl rfl ?_
    refine g_aload_n (j := 1) dX11_keep_31 rfl rfl ?_
    obtain ⟨v9, ev9, hf⟩ := ob hf
    refine g_getF dX11_keep_32 ev9 t_383 hin15 hc15 (by decide) rfl ?_
    obtain ⟨σ10, eσ10, hf⟩ := ob hf
    refine g_aast dX11_keep_35 (by decide) rfl hc5 eσ10 ?_
    refine g_iload_n (j := 0) dX11_keep_36 rfl rfl ?_
    cases hf
    exact g_iret dX11_keep_37 rfl rfl hX2 hX1 rfl
  · rw [if_pos c4] at hf
    cases hf
    exact g_throw (cls := "java/lang/IllegalArgumentException") (names := ["java/lang/RuntimeException", "java/lang/Exception"]) dX11_keep_8 dX11_keep_11 dX11_keep_12 dX11_keep_15 (by decide +kernel) (by decide +kernel) thw_103 thg_103 (by decide) (by decide) hX2 hX1 rfl

theorem okX11_keep (M : Mt) (h1 : 8 + 1 ≤ M.2.2.2.2.1) (h2 : 8 + (3 + 11) + 160 ≤ M.2.2.2.2.2.1) : CallOk M MtX11_keep yX11_keep 1 := ⟨t_1670, h1, h2, ⟨by decide, by decide⟩, by decide +kernel, t_1⟩
abbrev MtX11_take : Mt := (cX11_take, 2, "ExactlySaid", (Option.some Jvm.ClassFile.FieldType.int), 8, 160, false)
set_option maxRecDepth 100000 in
set_option maxHeartbeats 4000000 in
theorem wX11_take (l : Launch) (hst : l.stackTraces = false) {σ σf : St} {x0 : Nat} {x1 : Int32} {r : (String ⊕ Int32)} (hf : fX11_take σ x0 x1 = some (σf, r)) : ConT MtX11_take yX11_take l σ [rv x0, .int x1] σf (ocI r) := by
  refine ConT.of hst (by decide +kernel) rfl (fun h => absurd (show false = true from h) (by decide)) (by simp only [sl_n, sl_r, sl_i, sl_l]; exact Nat.le_of_ble_eq_true rfl) ?_
  rw [show lv_args 0 [rv x0, .int x1] = [(0, rv x0), (1, .int x1)] by simp only [la_n, la_r, la_i, la_l] <;> rfl]
  have hX1 : ((l, σ, σf, xo (ocI r)) : Xt).2.2.1 = σf := rfl
  have hX2 : ((l, σ, σf, xo (ocI r)) : Xt).2.2.2 = xo (ocI r) := rfl
  generalize ((l, σ, σf, xo (ocI r)) : Xt) = X at hX1 hX2 ⊢
  unfold fX11_take at hf
  refine g_aload_n (j := 0) dX11_take_0 rfl rfl ?_
  refine g_iload_n (j := 1) dX11_take_1 rfl rfl ?_
  obtain ⟨_, h3, hf⟩ := ob hf
  obtain ⟨σ1, v2, eσ1, hf⟩ := cb_el hf
  refine g_callV_i dX11_take_2 (wX11_isSlot _ eσ1) (okX11_isSlot _ (by decide) (by decide)) (ckK_el h3) hc15 t_1671 t_1673 s_X11_isSlot rfl (Nat.le_trans (cat_le _) (Nat.le_of_ble_eq_true rfl)) rfl ?_
  refine g_if_ne (tgt := 16) dX11_take_5 (by decide) (fun c4 => ?_) (fun c4 => ?_)
  · rw [if_neg c4] at hf
    refine g_aload_n (j := 0) dX11_take_16 rfl rfl ?_
    refine g_aload_n (j := 0) dX11_take_17 rfl rfl ?_
    obtain ⟨v5, ev5, hf⟩ := ob hf
    refine g_getF dX11_take_18 ev5 t_384 hin15 hc15 (by decide) rfl ?_
    refine g_iload_n (j := 1) dX11_take_21 rfl rfl ?_
    obtain ⟨v6, ev6, hf⟩ := ob hf
    refine g_aald dX11_take_22 (by decide) rfl ev6 ?_
    obtain ⟨σ7, eσ7, hf⟩ := ob hf
    refine g_putF dX11_take_23 eσ7 (Or.inl t_383) hin15 hc15 (by decide) hty15 hnm15 (Or.inl rfl) rfl ?_
    refine g_aload_n (j := 0) dX11_take_26 rfl rfl ?_
    obtain ⟨v8, ev8, hf⟩ := ob hf
    refine g_getF dX11_take_27 ev8 t_383 hin15 hc15 (by decide) rfl ?_
    obtain ⟨v9, ev9, hf⟩ := ob hf
    refine g_getIN dX11_take_30 ev9 t_75 hin5 hc5 (by decide) rfl ?_
    cases hf
    exact g_iret dX11_take_33 rfl rfl hX2 hX1 rfl
  · rw [if_pos c4] at hf
    cases hf
    exact g_throw (cls := "java/lang/IllegalArgumentException") (names := ["java/lang/RuntimeException", "java/lang/Exception"]) dX11_take_8 dX11_take_11 dX11_take_12 dX11_take_15 (by decide +kernel) (by decide +kernel) thw_103 thg_103 (by decide) (by decide) hX2 hX1 rfl

theorem okX11_take (M : Mt) (h1 : 8 + 1 ≤ M.2.2.2.2.1) (h2 : 8 + (2 + 11) + 160 ≤ M.2.2.2.2.2.1) : CallOk M MtX11_take yX11_take 1 := ⟨t_1681, h1, h2, ⟨by decide, by decide⟩, by decide +kernel, t_1⟩
abbrev MtX11_compare : Mt := (cX11_compare, 3, "ExactlySaid", (Option.some Jvm.ClassFile.FieldType.int), 8, 160, false)
set_option maxRecDepth 100000 in
set_option maxHeartbeats 4000000 in
theorem bX11_compare_16 {X : Xt} {σf : St} {r : (String ⊕ Int32)} (hX1 : X.2.2.1 = σf) (hX2 : X.2.2.2 = xo (ocI r)) {σ : St} (hf : fX11_compare_16 σ  = some (σf, r)) : G MtX11_compare X σ 16 [] [] := by
  unfold fX11_compare_16 at hf
  cases hf
  exact g_throw (cls := "java/lang/IllegalArgumentException") (names := ["java/lang/RuntimeException", "java/lang/Exception"]) dX11_compare_16 dX11_compare_19 dX11_compare_20 dX11_compare_23 (by decide +kernel) (by decide +kernel) thw_103 thg_103 (by decide) (by decide) hX2 hX1 rfl

set_option maxRecDepth 100000 in
set_option maxHeartbeats 4000000 in
theorem wX11_compare (l : Launch) (hst : l.stackTraces = false) {σ σf : St} {x0 : Nat} {x1 : Int32} {x2 : Int32} {r : (String ⊕ Int32)} (hf : fX11_compare σ x0 x1 x2 = some (σf, r)) : ConT MtX11_compare yX11_compare l σ [rv x0, .int x1, .int x2] σf (ocI r) := by
  refine ConT.of hst (by decide +kernel) rfl (fun h => absurd (show false = true from h) (by decide)) (by simp only [sl_n, sl_r, sl_i, sl_l]; exact Nat.le_of_ble_eq_true rfl) ?_
  rw [show lv_args 0 [rv x0, .int x1, .int x2] = [(0, rv x0), (1, .int x1), (2, .int x2)] by simp only [la_n, la_r, la_i, la_l] <;> rfl]
  have hX1 : ((l, σ, σf, xo (ocI r)) : Xt).2.2.1 = σf := rfl
  have hX2 : ((l, σ, σf, xo (ocI r)) : Xt).2.2.2 = xo (ocI r) := rfl
  generalize ((l, σ, σf, xo (ocI r)) : Xt) = X at hX1 hX2 ⊢
  unfold fX11_compare at hf
  refine g_aload_n (j := 0) dX11_compare_0 rfl rfl ?_
  refine g_iload_n (j := 1) dX11_compare_1 rfl rfl ?_
  obtain ⟨_, h3, hf⟩ := ob hf
  obtain ⟨σ1, v2, eσ1, hf⟩ := cb_el hf
  refine g_callV_i dX11_compare_2 (wX11_isSlot _ eσ1) (okX11_isSlot _ (by decide) (by decide)) (ckK_el h3) hc15 t_1671 t_1673 s_X11_isSlot rfl (Nat.le_trans (cat_le _) (Nat.le_of_ble_eq_true rfl)) rfl ?_
  refine g_if_eq (tgt := 16) dX11_compare_5 (by decide) (fun c4 => ?_) (fun c4 => ?_)
  · rw [if_pos c4] at hf
    refine g_sub (L' := []) [] rfl ?_
    exact bX11_compare_16 hX1 hX2 hf
  · rw [if_neg c4] at hf
    refine g_aload_n (j := 0) dX11_compare_8 rfl rfl ?_
    refine g_iload_n (j := 2) dX11_compare_9 rfl rfl ?_
    obtain ⟨_, h7, hf⟩ := ob hf
    obtain ⟨σ5, v6, eσ5, hf⟩ := cb_el hf
    refine g_callV_i dX11_compare_10 (wX11_isSlot _ eσ5) (okX11_isSlot _ (by decide) (by decide)) (ckK_el h7) hc15 t_1671 t_1673 s_X11_isSlot rfl (Nat.le_trans (cat_le _) (Nat.le_of_ble_eq_true rfl)) rfl ?_
    refine g_if_ne (tgt := 24) dX11_compare_13 (by decide) (fun c8 => ?_) (fun c8 => ?_)
    · rw [if_neg c8] at hf
      refine g_aload_n (j := 0) dX11_compare_24 rfl rfl ?_
      obtain ⟨v9, ev9, hf⟩ := ob hf
      refine g_getF dX11_compare_25 ev9 t_391 hin15 hc15 (by decide) rfl ?_
      refine g_aload_n (j := 0) dX11_compare_28 rfl rfl ?_
      obtain ⟨v10, ev10, hf⟩ := ob hf
      refine g_getF dX11_compare_29 ev10 t_384 hin15 hc15 (by decide) rfl ?_
      refine g_iload_n (j := 1) dX11_compare_32 rfl rfl ?_
      obtain ⟨v11, ev11, hf⟩ := ob hf
      refine g_aald dX11_compare_33 (by decide) rfl ev11 ?_
      refine g_aload_n (j := 0) dX11_compare_34 rfl rfl ?_
      obtain ⟨v12, ev12, hf⟩ := ob hf
      refine g_getF dX11_compare_35 ev12 t_384 hin15 hc15 (by decide) rfl ?_
      refine g_iload_n (j := 2) dX11_compare_38 rfl rfl ?_
      obtain ⟨v13, ev13, hf⟩ := ob hf
      refine g_aald dX11_compare_39 (by decide) rfl ev13 ?_
      obtain ⟨_, h16, hf⟩ := ob hf
      obtain ⟨σ14, v15, eσ14, hf⟩ := cb_el hf
      refine g_callVN_i dX11_compare_40 (wX5_order _ eσ14) (okX5_order _ (by decide) (by decide)) (ckK_el h16) hc9 t_1689 t_1212 s_X5_order rfl (Nat.le_trans (cat_le _) (Nat.le_of_ble_eq_true rfl)) rfl ?_
      cases hf
      exact g_iret dX11_compare_43 rfl rfl hX2 hX1 rfl
    · rw [if_pos c8] at hf
      refine g_sub (L' := []) [] rfl ?_
      exact bX11_compare_16 hX1 hX2 hf

theorem okX11_compare (M : Mt) (h1 : 8 + 1 ≤ M.2.2.2.2.1) (h2 : 8 + (3 + 11) + 160 ≤ M.2.2.2.2.2.1) : CallOk M MtX11_compare yX11_compare 2 := ⟨t_1688, h1, h2, ⟨by decide, by decide⟩, by decide +kernel, t_1⟩
abbrev MtX11_names : Mt := (cX11_names, 1, "ExactlySaid", (Option.some Jvm.ClassFile.FieldType.int), 2, 104, false)
set_option maxRecDepth 100000 in
set_option maxHeartbeats 4000000 in
theorem wX11_names (l : Launch) {σ σf : St} {x0 : Nat} {r : Int32} (hf : fX11_names σ x0 = some (σf, r)) : Con MtX11_names yX11_names l σ [rv x0] σf (some (.int r)) := by
  refine Con.of (by decide +kernel) rfl (fun h => absurd (show false = true from h) (by decide)) (by simp only [sl_n, sl_r, sl_i, sl_l]; exact Nat.le_of_ble_eq_true rfl) ?_
  rw [show lv_args 0 [rv x0] = [(0, rv x0)] by simp only [la_n, la_r, la_i, la_l] <;> rfl]
  have hX1 : ((l, σ, σf, .inl (some (.int r))) : Xt).2.2.1 = σf := rfl
  have hX2 : ((l, σ, σf, .inl (some (.int r))) : Xt).2.2.2 = .inl (some (.int r)) := rfl
  unfold fX11_names at hf
  refine g_aload_n (j := 0) dX11_names_0 rfl rfl ?_
  obtain ⟨_, h3, hf⟩ := ob hf
  obtain ⟨σ1, a2, eσ1, hf⟩ := cb_el hf
  refine g_callV_q dX11_names_1 (wX11_present _ eσ1) (okX11_present _ (by decide) (by decide)) (ckK_el h3) hc15 t_959 t_961 s_X11_present rfl (Nat.le_trans (cat_le _) (Nat.le_of_ble_eq_true rfl)) rfl ?_
  obtain ⟨v4, ev4, hf⟩ := ob hf
  refine g_getFN dX11_names_4 ev4 t_367 hin11 hc11 (by decide) rfl ?_
  obtain ⟨v5, ev5, hf⟩ := ob hf
  refine g_getFN dX11_names_7 ev5 t_335 hin4 hc4 (by decide) rfl ?_
  obtain ⟨v6, ev6, hf⟩ := ob hf
  refine g_alen dX11_names_10 ev6 ?_
  exact g_iret dX11_names_11 rfl rfl hX2 hX1 hf

theorem okX11_names (M : Mt) (h1 : 2 + 1 ≤ M.2.2.2.2.1) (h2 : 8 + (1 + 11) + 104 ≤ M.2.2.2.2.2.1) : CallOk M MtX11_names yX11_names 0 := ⟨t_958, h1, h2, ⟨by decide, by decide⟩, by decide +kernel, t_1⟩
abbrev MtX11_nameAt : Mt := (cX11_nameAt, 3, "ExactlySaid", (Option.some Jvm.ClassFile.FieldType.int), 8, 160, false)
set_option maxRecDepth 100000 in
set_option maxHeartbeats 4000000 in
theorem bX11_nameAt_21 {X : Xt} {σf : St} {r : (String ⊕ Int32)} (hX1 : X.2.2.1 = σf) (hX2 : X.2.2.2 = xo (ocI r)) {σ : St} (hf : fX11_nameAt_21 σ  = some (σf, r)) : G MtX11_nameAt X σ 21 [] [] := by
  unfold fX11_nameAt_21 at hf
  cases hf
  exact g_throw (cls := "java/lang/IndexOutOfBoundsException") (names := ["java/lang/RuntimeException", "java/lang/Exception"]) dX11_nameAt_21 dX11_nameAt_24 dX11_nameAt_25 dX11_nameAt_28 (by decide +kernel) (by decide +kernel) thw_147 thg_147 (by decide) (by decide) hX2 hX1 rfl

set_option maxRecDepth 100000 in
set_option maxHeartbeats 4000000 in
theorem wX11_nameAt (l : Launch) (hst : l.stackTraces = false) {σ σf : St} {x0 : Nat} {x1 : Int32} {r : (String ⊕ Int32)} (hf : fX11_nameAt σ x0 x1 = some (σf, r)) : ConT MtX11_nameAt yX11_nameAt l σ [rv x0, .int x1] σf (ocI r) := by
  refine ConT.of hst (by decide +kernel) rfl (fun h => absurd (show false = true from h) (by decide)) (by simp only [sl_n, sl_r, sl_i, sl_l]; exact Nat.le_of_ble_eq_true rfl) ?_
  rw [show lv_args 0 [rv x0, .int x1] = [(0, rv x0), (1, .int x1)] by simp only [la_n, la_r, la_i, la_l] <;> rfl]
  have hX1 : ((l, σ, σf, xo (ocI r)) : Xt).2.2.1 = σf := rfl
  have hX2 : ((l, σ, σf, xo (ocI r)) : Xt).2.2.2 = xo (ocI r) := rfl
  generalize ((l, σ, σf, xo (ocI r)) : Xt) = X at hX1 hX2 ⊢
  unfold fX11_nameAt at hf
  refine g_aload_n (j := 0) dX11_nameAt_0 rfl rfl ?_
  obtain ⟨_, h3, hf⟩ := ob hf
  obtain ⟨σ1, a2, eσ1, hf⟩ := cb_el hf
  refine g_callV_q dX11_nameAt_1 (wX11_present _ eσ1) (okX11_present _ (by decide) (by decide)) (ckK_el h3) hc15 t_959 t_961 s_X11_present rfl (Nat.le_trans (cat_le _) (Nat.le_of_ble_eq_true rfl)) rfl ?_
  obtain ⟨v4, ev4, hf⟩ := ob hf
  refine g_getFN dX11_nameAt_4 ev4 t_367 hin11 hc11 (by decide) rfl ?_
  obtain ⟨v5, ev5, hf⟩ := ob hf
  refine g_getFN dX11_nameAt_7 ev5 t_335 hin4 hc4 (by decide) rfl ?_
  refine g_astore_n (i := 2) (L' := [(2, rv v5), (0, rv x0), (1, .int x1)]) dX11_nameAt_10 rfl (Nat.le_of_ble_eq_true rfl) rfl ?_
  refine g_iload_n (j := 2) dX11_nameAt_11 rfl rfl ?_
  refine g_if_lt (tgt := 21) dX11_nameAt_12 (by decide) (fun c6 => ?_) (fun c6 => ?_)
  · rw [if_pos c6] at hf
    refine g_sub (L' := []) [] rfl ?_
    exact bX11_nameAt_21 hX1 hX2 hf
  · rw [if_neg c6] at hf
    refine g_iload_n (j := 2) dX11_nameAt_15 rfl rfl ?_
    refine g_aload_n (j := 0) dX11_nameAt_16 rfl rfl ?_
    obtain ⟨v7, ev7, hf⟩ := ob hf
    refine g_alen dX11_nameAt_17 ev7 ?_
    refine g_icmp_lt (tgt := 29) dX11_nameAt_18 (by decide) (fun c8 => ?_) (fun c8 => ?_)
    · rw [if_pos c8] at hf
      refine g_aload_n (j := 0) dX11_nameAt_29 rfl rfl ?_
      refine g_iload_n (j := 2) dX11_nameAt_30 rfl rfl ?_
      obtain ⟨v9, ev9, hf⟩ := ob hf
      refine g_aald dX11_nameAt_31 (by decide) rfl ev9 ?_
      obtain ⟨v10, ev10, hf⟩ := ob hf
      refine g_getIN dX11_nameAt_32 ev10 t_1560 hin14 hc14 (by decide) rfl ?_
      cases hf
      exact g_iret dX11_nameAt_35 rfl rfl hX2 hX1 rfl
    · rw [if_neg c8] at hf
      refine g_sub (L' := []) [] rfl ?_
      exact bX11_nameAt_21 hX1 hX2 hf

theorem okX11_nameAt (M : Mt) (h1 : 8 + 1 ≤ M.2.2.2.2.1) (h2 : 8 + (3 + 11) + 160 ≤ M.2.2.2.2.2.1) : CallOk M MtX11_nameAt yX11_nameAt 1 := ⟨t_1696, h1, h2, ⟨by decide, by decide⟩, by decide +kernel, t_1⟩
abbrev MtX11_takeName : Mt := (cX11_takeName, 3, "ExactlySaid", (Option.some Jvm.ClassFile.FieldType.int), 8, 160, false)
set_option maxRecDepth 100000 in
set_option maxHeartbeats 4000000 in
theorem bX11_takeName_34 {X : Xt} {σf : St} {r : (String ⊕ Int32)} (hX1 : X.2.2.1 = σf) (hX2 : X.2.2.2 = xo (ocI r)) {σ : St} (hf : fX11_takeName_34 σ  = some (σf, r)) : G MtX11_takeName X σ 34 [] [] := by
  unfold fX11_takeName_34 at hf
  cases hf
  exact g_throw (cls := "java/util/NoSuchElementException") (names := ["java/lang/RuntimeException", "java/lang/Exception"]) dX11_takeName_34 dX11_takeName_37 dX11_takeName_38 dX11_takeName_41 (by decide +kernel) (by decide +kernel) thw_333 thg_333 (by decide) (by decide) hX2 hX1 rfl

set_option maxRecDepth 100000 in
set_option maxHeartbeats 4000000 in
theorem wX11_takeName (l : Launch) (hst : l.stackTraces = false) {σ σf : St} {x0 : Nat} {x1 : Int32} {r : (String ⊕ Int32)} (hf : fX11_takeName σ x0 x1 = some (σf, r)) : ConT MtX11_takeName yX11_takeName l σ [rv x0, .int x1] σf (ocI r) := by
  refine ConT.of hst (by decide +kernel) rfl (fun h => absurd (show false = true from h) (by decide)) (by simp only [sl_n, sl_r, sl_i, sl_l]; exact Nat.le_of_ble_eq_true rfl) ?_
  rw [show lv_args 0 [rv x0, .int x1] = [(0, rv x0), (1, .int x1)] by simp only [la_n, la_r, la_i, la_l] <;> rfl]
  have hX1 : ((l, σ, σf, xo (ocI r)) : Xt).2.2.1 = σf := rfl
  have hX2 : ((l, σ, σf, xo (ocI r)) : Xt).2.2.2 = xo (ocI r) := rfl
  generalize ((l, σ, σf, xo (ocI r)) : Xt) = X at hX1 hX2 ⊢
  unfold fX11_takeName at hf
  refine g_aload_n (j := 0) dX11_takeName_0 rfl rfl ?_
  obtain ⟨_, h3, hf⟩ := ob hf
  obtain ⟨σ1, a2, eσ1, hf⟩ := cb_el hf
  refine g_callV_q dX11_takeName_1 (wX11_present _ eσ1) (okX11_present _ (by decide) (by decide)) (ckK_el h3) hc15 t_959 t_961 s_X11_present rfl (Nat.le_trans (cat_le _) (Nat.le_of_ble_eq_true rfl)) rfl ?_
  obtain ⟨v4, ev4, hf⟩ := ob hf
  refine g_getFN dX11_takeName_4 ev4 t_367 hin11 hc11 (by decide) rfl ?_
  refine g_aload_n (j := 0) dX11_takeName_7 rfl rfl ?_
  obtain ⟨_, h7, hf⟩ := ob hf
  obtain ⟨σ5, a6, eσ5, hf⟩ := cb_el hf
  refine g_callV_q dX11_takeName_8 (wX11_present _ eσ5) (okX11_present _ (by decide) (by decide)) (ckK_el h7) hc15 t_959 t_961 s_X11_present rfl (Nat.le_trans (cat_le _) (Nat.le_of_ble_eq_true rfl)) rfl ?_
  obtain ⟨v8, ev8, hf⟩ := ob hf
  refine g_getFN dX11_takeName_11 ev8 t_367 hin11 hc11 (by decide) rfl ?_
  refine g_iload_n (j := 1) dX11_takeName_14 rfl rfl ?_
  refine g_iconst (v := 0) dX11_takeName_15 (by decide) ?_
  obtain ⟨_, h11, hf⟩ := ob hf
  obtain ⟨σ9, v10, eσ9, hf⟩ := cb_el hf
  refine g_callVN_i dX11_takeName_16 (wX0_find _ eσ9) (okX0_find _ (by decide) (by decide)) (ckK_el h11) hc4 t_971 t_973 s_X0_find rfl (Nat.le_trans (cat_le _) (Nat.le_of_ble_eq_true rfl)) rfl ?_
  obtain ⟨_, h14, hf⟩ := ob hf
  obtain ⟨σ12, a13, eσ12, hf⟩ := cb_el hf
  refine g_callVN_q dX11_takeName_19 (wX0_toldAt _ eσ12) (okX0_toldAt _ (by decide) (by decide)) (ckK_el h14) hc4 t_1610 t_1134 s_X0_toldAt rfl (Nat.le_trans (cat_le _) (Nat.le_of_ble_eq_true rfl)) rfl ?_
  refine g_astore_n (i := 2) (L' := [(2, rv a13), (0, rv x0), (1, .int x1)]) dX11_takeName_22 rfl (Nat.le_of_ble_eq_true rfl) rfl ?_
  refine g_aload_n (j := 0) dX11_takeName_23 rfl rfl ?_
  refine g_ifnull (tgt := 34) dX11_takeName_24 (by decide) (fun c15 => ?_) (fun c15 => ?_)
  · rw [if_pos c15] at hf
    refine g_sub (L' := []) [] rfl ?_
    exact bX11_takeName_34 hX1 hX2 hf
  · rw [if_neg c15] at hf
    refine g_aload_n (j := 0) dX11_takeName_27 rfl rfl ?_
    obtain ⟨v16, ev16, hf⟩ := ob hf
    refine g_getFN dX11_takeName_28 ev16 t_1571 hin14 hc14 (by decide) rfl ?_
    refine g_ifnonnull (tgt := 42) dX11_takeName_31 (by decide) (fun c17 => ?_) (fun c17 => ?_)
    · rw [if_neg c17] at hf
      refine g_aload_n (j := 1) dX11_takeName_42 rfl rfl ?_
      refine g_aload_n (j := 0) dX11_takeName_43 rfl rfl ?_
      obtain ⟨v18, ev18, hf⟩ := ob hf
      refine g_getFN dX11_takeName_44 ev18 t_1571 hin14 hc14 (by decide) rfl ?_
      obtain ⟨σ19, eσ19, hf⟩ := ob hf
      refine g_putF dX11_takeName_47 eσ19 (Or.inl t_383) hin15 hc15 (by decide) hty15 hnm15 (Or.inl rfl) rfl ?_
      refine g_aload_n (j := 1) dX11_takeName_50 rfl rfl ?_
      obtain ⟨v20, ev20, hf⟩ := ob hf
      refine g_getF dX11_takeName_51 ev20 t_383 hin15 hc15 (by decide) rfl ?_
      obtain ⟨v21, ev21, hf⟩ := ob hf
      refine g_getIN dX11_takeName_54 ev21 t_75 hin5 hc5 (by decide) rfl ?_
      cases hf
      exact g_iret dX11_takeName_57 rfl rfl hX2 hX1 rfl
    · rw [if_pos c17] at hf
      refine g_sub (L' := []) [] rfl ?_
      exact bX11_takeName_34 hX1 hX2 hf

theorem okX11_takeName (M : Mt) (h1 : 8 + 1 ≤ M.2.2.2.2.1) (h2 : 8 + (3 + 11) + 160 ≤ M.2.2.2.2.2.1) : CallOk M MtX11_takeName yX11_takeName 1 := ⟨t_1704, h1, h2, ⟨by decide, by decide⟩, by decide +kernel, t_1⟩
abbrev MtX11_functions : Mt := (cX11_functions, 1, "ExactlySaid", (Option.some Jvm.ClassFile.FieldType.int), 2, 104, false)
set_option maxRecDepth 100000 in
set_option maxHeartbeats 4000000 in
theorem wX11_functions (l : Launch) {σ σf : St} {x0 : Nat} {r : Int32} (hf : fX11_functions σ x0 = some (σf, r)) : Con MtX11_functions yX11_functions l σ [rv x0] σf (some (.int r)) := by
  refine Con.of (by decide +kernel) rfl (fun h => absurd (show false = true from h) (by decide)) (by simp only [sl_n, sl_r, sl_i, sl_l]; exact Nat.le_of_ble_eq_true rfl) ?_
  rw [show lv_args 0 [rv x0] = [(0, rv x0)] by simp only [la_n, la_r, la_i, la_l] <;> rfl]
  have hX1 : ((l, σ, σf, .inl (some (.int r))) : Xt).2.2.1 = σf := rfl
  have hX2 : ((l, σ, σf, .inl (some (.int r))) : Xt).2.2.2 = .inl (some (.int r)) := rfl
  unfold fX11_functions at hf
  refine g_aload_n (j := 0) dX11_functions_0 rfl rfl ?_
  obtain ⟨_, h3, hf⟩ := ob hf
  obtain ⟨σ1, a2, eσ1, hf⟩ := cb_el hf
  refine g_callV_q dX11_functions_1 (wX11_present _ eσ1) (okX11_present _ (by decide) (by decide)) (ckK_el h3) hc15 t_959 t_961 s_X11_present rfl (Nat.le_trans (cat_le _) (Nat.le_of_ble_eq_true rfl)) rfl ?_
  obtain ⟨v4, ev4, hf⟩ := ob hf
  refine g_getFN dX11_functions_4 ev4 t_367 hin11 hc11 (by decide) rfl ?_
  obtain ⟨v5, ev5, hf⟩ := ob hf
  refine g_getFN dX11_functions_7 ev5 t_337 hin4 hc4 (by decide) rfl ?_
  obtain ⟨v6, ev6, hf⟩ := ob hf
  refine g_alen dX11_functions_10 ev6 ?_
  exact g_iret dX11_functions_11 rfl rfl hX2 hX1 hf

theorem okX11_functions (M : Mt) (h1 : 2 + 1 ≤ M.2.2.2.2.1) (h2 : 8 + (1 + 11) + 104 ≤ M.2.2.2.2.2.1) : CallOk M MtX11_functions yX11_functions 0 := ⟨t_966, h1, h2, ⟨by decide, by decide⟩, by decide +kernel, t_1⟩
abbrev MtX11_parameters : Mt := (cX11_parameters, 3, "ExactlySaid", (Option.some Jvm.ClassFile.FieldType.int), 8, 160, false)
set_option maxRecDepth 100000 in
set_option maxHeartbeats 4000000 in
theorem wX11_parameters (l : Launch) (hst : l.stackTraces = false) {σ σf : St} {x0 : Nat} {x1 : Int32} {r : (String ⊕ Int32)} (hf : fX11_parameters σ x0 x1 = some (σf, r)) : ConT MtX11_parameters yX11_parameters l σ [rv x0, .int x1] σf (ocI r) := by
  refine ConT.of hst (by decide +kernel) rfl (fun h => absurd (show false = true from h) (by decide)) (by simp only [sl_n, sl_r, sl_i, sl_l]; exact Nat.le_of_ble_eq_true rfl) ?_
  rw [show lv_args 0 [rv x0, .int x1] = [(0, rv x0), (1, .int x1)] by simp only [la_n, la_r, la_i, la_l] <;> rfl]
  have hX1 : ((l, σ, σf, xo (ocI r)) : Xt).2.2.1 = σf := rfl
  have hX2 : ((l, σ, σf, xo (ocI r)) : Xt).2.2.2 = xo (ocI r) := rfl
  generalize ((l, σ, σf, xo (ocI r)) : Xt) = X at hX1 hX2 ⊢
  unfold fX11_parameters at hf
  refine g_aload_n (j := 0) dX11_parameters_0 rfl rfl ?_
  obtain ⟨_, h3, hf⟩ := ob hf
  obtain ⟨σ1, a2, eσ1, hf⟩ := cb_el hf
  refine g_callV_q dX11_parameters_1 (wX11_present _ eσ1) (okX11_present _ (by decide) (by decide)) (ckK_el h3) hc15 t_959 t_961 s_X11_present rfl (Nat.le_trans (cat_le _) (Nat.le_of_ble_eq_true rfl)) rfl ?_
  obtain ⟨v4, ev4, hf⟩ := ob hf
  refine g_getFN dX11_parameters_4 ev4 t_367 hin11 hc11 (by decide) rfl ?_
  refine g_aload_n (j := 0) dX11_parameters_7 rfl rfl ?_
  obtain ⟨_, h7, hf⟩ := ob hf
  obtain ⟨σ5, a6, eσ5, hf⟩ := cb_el hf
  refine g_callV_q dX11_parameters_8 (wX11_present _ eσ5) (okX11_present _ (by decide) (by decide)) (ckK_el h7) hc15 t_959 t_961 s_X11_present rfl (Nat.le_trans (cat_le _) (Nat.le_of_ble_eq_true rfl)) rfl ?_
  obtain ⟨v8, ev8, hf⟩ := ob hf
  refine g_getFN dX11_parameters_11 ev8 t_367 hin11 hc11 (by decide) rfl ?_
  refine g_iload_n (j := 1) dX11_parameters_14 rfl rfl ?_
  refine g_iconst (v := 1) dX11_parameters_15 (by decide) ?_
  obtain ⟨_, h11, hf⟩ := ob hf
  obtain ⟨σ9, v10, eσ9, hf⟩ := cb_el hf
  refine g_callVN_i dX11_parameters_16 (wX0_find _ eσ9) (okX0_find _ (by decide) (by decide)) (ckK_el h11) hc4 t_971 t_973 s_X0_find rfl (Nat.le_trans (cat_le _) (Nat.le_of_ble_eq_true rfl)) rfl ?_
  obtain ⟨_, h14, hf⟩ := ob hf
  obtain ⟨σ12, a13, eσ12, hf⟩ := cb_el hf
  refine g_callVN_q dX11_parameters_19 (wX0_toldAt _ eσ12) (okX0_toldAt _ (by decide) (by decide)) (ckK_el h14) hc4 t_1610 t_1134 s_X0_toldAt rfl (Nat.le_trans (cat_le _) (Nat.le_of_ble_eq_true rfl)) rfl ?_
  refine g_astore_n (i := 2) (L' := [(2, rv a13), (0, rv x0), (1, .int x1)]) dX11_parameters_22 rfl (Nat.le_of_ble_eq_true rfl) rfl ?_
  refine g_aload_n (j := 0) dX11_parameters_23 rfl rfl ?_
  refine g_ifnonnull (tgt := 35) dX11_parameters_24 (by decide) (fun c15 => ?_) (fun c15 => ?_)
  · rw [if_neg c15] at hf
    refine g_aload_n (j := 0) dX11_parameters_35 rfl rfl ?_
    obtain ⟨v16, ev16, hf⟩ := ob hf
    refine g_getIN dX11_parameters_36 ev16 t_1564 hin14 hc14 (by decide) rfl ?_
    cases hf
    exact g_iret dX11_parameters_39 rfl rfl hX2 hX1 rfl
  · rw [if_pos c15] at hf
    cases hf
    exact g_throw (cls := "java/util/NoSuchElementException") (names := ["java/lang/RuntimeException", "java/lang/Exception"]) dX11_parameters_27 dX11_parameters_30 dX11_parameters_31 dX11_parameters_34 (by decide +kernel) (by decide +kernel) thw_333 thg_333 (by decide) (by decide) hX2 hX1 rfl

theorem okX11_parameters (M : Mt) (h1 : 8 + 1 ≤ M.2.2.2.2.1) (h2 : 8 + (3 + 11) + 160 ≤ M.2.2.2.2.2.1) : CallOk M MtX11_parameters yX11_parameters 1 := ⟨t_1726, h1, h2, ⟨by decide, by decide⟩, by decide +kernel, t_1⟩
abbrev MtX11_uses : Mt := (cX11_uses, 8, "ExactlySaid", (Option.some Jvm.ClassFile.FieldType.boolean), 2, 108, false)
set_option maxRecDepth 100000 in
set_option maxHeartbeats 4000000 in
theorem wX11_uses (l : Launch) {σ σf : St} {x0 : Nat} {x1 : Int32} {x2 : Int32} {x3 : Int32} {x4 : Int32} {r : Int32} (hf : fX11_uses σ x0 x1 x2 x3 x4 = some (σf, r)) : Con MtX11_uses yX11_uses l σ [rv x0, .int x1, .int x2, .int x3, .int x4] σf (some (.int r)) := by
  refine Con.of (by decide +kernel) rfl (fun h => absurd (show false = true from h) (by decide)) (by simp only [sl_n, sl_r, sl_i, sl_l]; exact Nat.le_of_ble_eq_true rfl) ?_
  rw [show lv_args 0 [rv x0, .int x1, .int x2, .int x3, .int x4] = [(0, rv x0), (1, .int x1), (2, .int x2), (3, .int x3), (4, .int x4)] by simp only [la_n, la_r, la_i, la_l] <;> rfl]
  have hX1 : ((l, σ, σf, .inl (some (.int r))) : Xt).2.2.1 = σf := rfl
  have hX2 : ((l, σ, σf, .inl (some (.int r))) : Xt).2.2.2 = .inl (some (.int r)) := rfl
  unfold fX11_uses at hf
  refine g_aload_n (j := 0) dX11_uses_0 rfl rfl ?_
  obtain ⟨_, h3, hf⟩ := ob hf
  obtain ⟨σ1, a2, eσ1, hf⟩ := cb_el hf
  refine g_callV_q dX11_uses_1 (wX11_present _ eσ1) (okX11_present _ (by decide) (by decide)) (ckK_el h3) hc15 t_959 t_961 s_X11_present rfl (Nat.le_trans (cat_le _) (Nat.le_of_ble_eq_true rfl)) rfl ?_
  obtain ⟨v4, ev4, hf⟩ := ob hf
  refine g_getFN dX11_uses_4 ev4 t_367 hin11 hc11 (by decide) rfl ?_
  refine g_astore (i := 5) (L' := [(5, rv v4), (0, rv x0), (1, .int x1), (2, .int x2), (3, .int x3), (4, .int x4)]) dX11_uses_7 (Nat.le_of_ble_eq_true rfl) rfl ?_
  refine g_aload (j := 0) dX11_uses_9 rfl ?_
  refine g_iload_n (j := 2) dX11_uses_11 rfl rfl ?_
  refine g_iload_n (j := 3) dX11_uses_12 rfl rfl ?_
  obtain ⟨_, h7, hf⟩ := ob hf
  obtain ⟨σ5, v6, eσ5, hf⟩ := cb_el hf
  refine g_callVN_i dX11_uses_13 (wX0_find _ eσ5) (okX0_find _ (by decide) (by decide)) (ckK_el h7) hc4 t_971 t_973 s_X0_find rfl (Nat.le_trans (cat_le _) (Nat.le_of_ble_eq_true rfl)) rfl ?_
  refine g_istore (i := 6) (L' := [(6, .int v6), (5, rv v4), (0, rv x0), (1, .int x1), (2, .int x2), (3, .int x3), (4, .int x4)]) dX11_uses_16 (Nat.le_of_ble_eq_true rfl) (by simp [rv_cat]) ?_
  refine g_aload (j := 1) dX11_uses_18 rfl ?_
  refine g_iload_n (j := 5) dX11_uses_20 rfl rfl ?_
  refine g_iload (j := 6) dX11_uses_21 rfl ?_
  obtain ⟨_, h10, hf⟩ := ob hf
  obtain ⟨σ8, v9, eσ8, hf⟩ := cb_el hf
  refine g_callVN_i dX11_uses_23 (wX0_find _ eσ8) (okX0_find _ (by decide) (by decide)) (ckK_el h10) hc4 t_971 t_973 s_X0_find rfl (Nat.le_trans (cat_le _) (Nat.le_of_ble_eq_true rfl)) rfl ?_
  refine g_istore (i := 7) (L' := [(7, .int v9), (6, .int v6), (5, rv v4), (0, rv x0), (1, .int x1), (2, .int x2), (3, .int x3), (4, .int x4)]) dX11_uses_26 (Nat.le_of_ble_eq_true rfl) rfl ?_
  refine g_iload (j := 1) dX11_uses_28 rfl ?_
  refine g_iconst (v := (-1)) dX11_uses_30 (by decide) ?_
  refine g_icmp_eq (tgt := 56) dX11_uses_31 (by decide) (fun c11 => ?_) (fun c11 => ?_)
  · rw [if_pos c11] at hf
    refine g_iconst (v := 0) dX11_uses_56 (by decide) ?_
    exact g_iret dX11_uses_57 rfl (by decide) hX2 hX1 hf
  · rw [if_neg c11] at hf
    refine g_iload (j := 0) dX11_uses_34 rfl ?_
    refine g_iconst (v := (-1)) dX11_uses_36 (by decide) ?_
    refine g_icmp_eq (tgt := 56) dX11_uses_37 (by decide) (fun c12 => ?_) (fun c12 => ?_)
    · rw [if_pos c12] at hf
      refine g_iconst (v := 0) dX11_uses_56 (by decide) ?_
      exact g_iret dX11_uses_57 rfl (by decide) hX2 hX1 hf
    · rw [if_neg c12] at hf
      refine g_aload (j := 2) dX11_uses_40 rfl ?_
      refine g_iload (j := 1) dX11_uses_42 rfl ?_
      refine g_iload (j := 0) dX11_uses_44 rfl ?_
      obtain ⟨_, h15, hf⟩ := ob hf
      obtain ⟨σ13, v14, eσ13, hf⟩ := cb_el hf
      refine g_callVN_i dX11_uses_46 (wX0_isUsing _ eσ13) (okX0_isUsing _ (by decide) (by decide)) (ckK_el h15) hc4 t_975 t_977 s_X0_isUsing rfl (Nat.le_trans (cat_le _) (Nat.le_of_ble_eq_true rfl)) rfl ?_
      refine g_if_eq (tgt := 56) dX11_uses_49 (by decide) (fun c16 => ?_) (fun c16 => ?_)
      · rw [if_pos c16] at hf
        refine g_iconst (v := 0) dX11_uses_56 (by decide) ?_
        exact g_iret dX11_uses_57 rfl (by decide) hX2 hX1 hf
      · rw [if_neg c16] at hf
        refine g_iconst (v := 1) dX11_uses_52 (by decide) ?_
        refine g_goto (tgt := 57) dX11_uses_53 (by decide) ?_
        exact g_iret dX11_uses_57 rfl (by decide) hX2 hX1 hf

theorem okX11_uses (M : Mt) (h1 : 2 + 1 ≤ M.2.2.2.2.1) (h2 : 8 + (8 + 11) + 108 ≤ M.2.2.2.2.2.1) : CallOk M MtX11_uses yX11_uses 4 := ⟨t_970, h1, h2, ⟨by decide, by decide⟩, by decide +kernel, t_1⟩
abbrev MtX11_users : Mt := (cX11_users, 4, "ExactlySaid", (Option.some Jvm.ClassFile.FieldType.int), 3, 129, false)
set_option maxRecDepth 100000 in
set_option maxHeartbeats 4000000 in
theorem wX11_users (l : Launch) {σ σf : St} {x0 : Nat} {x1 : Int32} {x2 : Int32} {r : Int32} (hf : fX11_users σ x0 x1 x2 = some (σf, r)) : Con MtX11_users yX11_users l σ [rv x0, .int x1, .int x2] σf (some (.int r)) := by
  refine Con.of (by decide +kernel) rfl (fun h => absurd (show false = true from h) (by decide)) (by simp only [sl_n, sl_r, sl_i, sl_l]; exact Nat.le_of_ble_eq_true rfl) ?_
  rw [show lv_args 0 [rv x0, .int x1, .int x2] = [(0, rv x0), (1, .int x1), (2, .int x2)] by simp only [la_n, la_r, la_i, la_l] <;> rfl]
  have hX1 : ((l, σ, σf, .inl (some (.int r))) : Xt).2.2.1 = σf := rfl
  have hX2 : ((l, σ, σf, .inl (some (.int r))) : Xt).2.2.2 = .inl (some (.int r)) := rfl
  unfold fX11_users at hf
  refine g_aload_n (j := 0) dX11_users_0 rfl rfl ?_
  obtain ⟨_, h3, hf⟩ := ob hf
  obtain ⟨σ1, a2, eσ1, hf⟩ := cb_el hf
  refine g_callV_q dX11_users_1 (wX11_present _ eσ1) (okX11_present _ (by decide) (by decide)) (ckK_el h3) hc15 t_959 t_961 s_X11_present rfl (Nat.le_trans (cat_le _) (Nat.le_of_ble_eq_true rfl)) rfl ?_
  obtain ⟨v4, ev4, hf⟩ := ob hf
  refine g_getFN dX11_users_4 ev4 t_367 hin11 hc11 (by decide) rfl ?_
  refine g_astore_n (i := 3) (L' := [(3, rv v4), (0, rv x0), (1, .int x1), (2, .int x2)]) dX11_users_7 rfl (Nat.le_of_ble_eq_true rfl) rfl ?_
  refine g_aload_n (j := 0) dX11_users_8 rfl rfl ?_
  refine g_aload_n (j := 0) dX11_users_9 rfl rfl ?_
  refine g_iload_n (j := 2) dX11_users_10 rfl rfl ?_
  refine g_iload_n (j := 3) dX11_users_11 rfl rfl ?_
  obtain ⟨_, h7, hf⟩ := ob hf
  obtain ⟨σ5, v6, eσ5, hf⟩ := cb_el hf
  refine g_callVN_i dX11_users_12 (wX0_find _ eσ5) (okX0_find _ (by decide) (by decide)) (ckK_el h7) hc4 t_971 t_973 s_X0_find rfl (Nat.le_trans (cat_le _) (Nat.le_of_ble_eq_true rfl)) rfl ?_
  obtain ⟨_, h10, hf⟩ := ob hf
  obtain ⟨σ8, v9, eσ8, hf⟩ := cb_el hf
  refine g_callVN_i dX11_users_15 (wX0_usersOf _ eσ8) (okX0_usersOf _ (by decide) (by decide)) (ckK_el h10) hc4 t_983 t_985 s_X0_usersOf rfl (Nat.le_trans (cat_le _) (Nat.le_of_ble_eq_true rfl)) rfl ?_
  obtain ⟨σ11, v12, eσ11, hf⟩ := cb_el hf
  refine g_callS_i dX11_users_18 (wJ6_bitCount_0f7a4 _ eσ11) (okJ6_bitCount_0f7a4 _ (by decide) (by decide)) t_988 t_989 rfl (Nat.le_trans (cat_le _) (Nat.le_of_ble_eq_true rfl)) rfl ?_
  exact g_iret dX11_users_21 rfl rfl hX2 hX1 hf

theorem okX11_users (M : Mt) (h1 : 3 + 1 ≤ M.2.2.2.2.1) (h2 : 8 + (4 + 11) + 129 ≤ M.2.2.2.2.2.1) : CallOk M MtX11_users yX11_users 2 := ⟨t_982, h1, h2, ⟨by decide, by decide⟩, by decide +kernel, t_1⟩
abbrev MtX0_left : Mt := (cX0_left, 4, "ExactlySaid$Book", (Option.some (Jvm.ClassFile.FieldType.array (Jvm.ClassFile.FieldType.object "ExactlySaid$Told"))), 1, 84, false)
set_option maxRecDepth 100000 in
set_option maxHeartbeats 4000000 in
theorem bX0_left_43 {X : Xt} {σf : St} {r : Nat} (hX1 : X.2.2.1 = σf) (hX2 : X.2.2.2 = .inl (some (rv r))) {k22 : St → Nat → Int32 → Nat → Int32 → Option (St × Nat)} (hk22 : ∀ (σ : St) (x0 : Nat) (x1 : Int32) (x2 : Nat) (x3 : Int32), k22 σ x0 x1 x2 x3 = some (σf, r) → G MtX0_left X σ 22 [(0, rv x0), (1, .int x1), (2, rv x2), (3, .int x3)] []) {σ : St} {x0 : Nat} {x1 : Int32} {x2 : Nat} {x3 : Int32} {y0 : Nat} {y1 : Int32} {y2 : Nat} {y3 : Int32} (hf : fX0_left_43 k22 σ x0 x1 x2 x3 y0 y1 y2 y3 = some (σf, r)) : G MtX0_left X σ 43 [(0, rv x0), (1, .int x1), (2, rv x2), (3, .int x3)] [.int y3, rv y2, .int y1, rv y0] := by
  unfold fX0_left_43 at hf
  obtain ⟨v1, ev1, hf⟩ := ob hf
  refine g_aald dX0_left_43 (by decide) rfl ev1 ?_
  obtain ⟨σ2, eσ2, hf⟩ := ob hf
  refine g_aast dX0_left_44 (by decide) rfl hc14 eσ2 ?_
  obtain ⟨v3, ev3, hf⟩ := nm_el hf
  refine g_iinc (L' := [(3, .int v3), (0, rv x0), (1, .int x1), (2, rv x2)]) (j := 3) (v := v3) dX0_left_45 rfl (by rw [ev3]; rfl) (Nat.le_of_ble_eq_true rfl) (by simp [rv_cat]) ?_
  refine g_goto (tgt := 22) dX0_left_48 (by decide) ?_
  refine g_sub (L' := [(0, rv x0), (1, .int x1), (2, rv x2), (3, .int v3)]) [1, 2, 3, 0] rfl ?_
  exact hk22 _ _ _ _ _ hf

set_option maxRecDepth 100000 in
set_option maxHeartbeats 4000000 in
theorem bX0_left_22 {X : Xt} {σf : St} {r : Nat} (hX1 : X.2.2.1 = σf) (hX2 : X.2.2.2 = .inl (some (rv r))) : ∀ (n : Nat) (σ : St) (x0 : Nat) (x1 : Int32) (x2 : Nat) (x3 : Int32), fX0_left_22 n σ x0 x1 x2 x3 = some (σf, r) → G MtX0_left X σ 22 [(0, rv x0), (1, .int x1), (2, rv x2), (3, .int x3)] [] := by
  intro n
  induction n with
  | zero => intro σ x0 x1 x2 x3 hf; cases hf
  | succ n ih =>
    intro σ x0 x1 x2 x3 hf
    rw [fX0_left_22] at hf
    refine g_iload_n (j := 3) dX0_left_22 rfl rfl ?_
    refine g_aload_n (j := 2) dX0_left_23 rfl rfl ?_
    obtain ⟨v1, ev1, hf⟩ := ob hf
    refine g_alen dX0_left_24 ev1 ?_
    refine g_icmp_ge (tgt := 51) dX0_left_25 (by decide) (fun c2 => ?_) (fun c2 => ?_)
    · rw [if_pos c2] at hf
      refine g_aload_n (j := 2) dX0_left_51 rfl rfl ?_
      exact g_aret dX0_left_52 rfl rfl hX2 hX1 hf
    · rw [if_neg c2] at hf
      refine g_aload_n (j := 2) dX0_left_28 rfl rfl ?_
      refine g_iload_n (j := 3) dX0_left_29 rfl rfl ?_
      refine g_aload_n (j := 0) dX0_left_30 rfl rfl ?_
      refine g_iload_n (j := 3) dX0_left_31 rfl rfl ?_
      refine g_iload_n (j := 1) dX0_left_32 rfl rfl ?_
      refine g_icmp_ge (tgt := 40) dX0_left_33 (by decide) (fun c3 => ?_) (fun c3 => ?_)
      · rw [if_pos c3] at hf
        refine g_iload_n (j := 3) dX0_left_40 rfl rfl ?_
        refine g_iconst (v := 1) dX0_left_41 (by decide) ?_
        refine g_iadd dX0_left_42 ?_
        exact bX0_left_43 hX1 hX2 (fun σ x0 x1 x2 x3 hf => ih σ x0 x1 x2 x3 hf) hf
      · rw [if_neg c3] at hf
        refine g_iload_n (j := 3) dX0_left_36 rfl rfl ?_
        refine g_goto (tgt := 43) dX0_left_37 (by decide) ?_
        exact bX0_left_43 hX1 hX2 (fun σ x0 x1 x2 x3 hf => ih σ x0 x1 x2 x3 hf) hf

set_option maxRecDepth 100000 in
set_option maxHeartbeats 4000000 in
theorem wX0_left (l : Launch) {σ σf : St} {x0 : Nat} {x1 : Int32} {r : Nat} (hf : fX0_left σ x0 x1 = some (σf, r)) : Con MtX0_left yX0_left l σ [rv x0, .int x1] σf (some (rv r)) := by
  refine Con.of (by decide +kernel) rfl (fun h => absurd (show false = true from h) (by decide)) (by simp only [sl_n, sl_r, sl_i, sl_l]; exact Nat.le_of_ble_eq_true rfl) ?_
  rw [show lv_args 0 [rv x0, .int x1] = [(0, rv x0), (1, .int x1)] by simp only [la_n, la_r, la_i, la_l] <;> rfl]
  have hX1 : ((l, σ, σf, .inl (some (rv r))) : Xt).2.2.1 = σf := rfl
  have hX2 : ((l, σ, σf, .inl (some (rv r))) : Xt).2.2.2 = .inl (some (rv r)) := rfl
  unfold fX0_left at hf
  refine g_iload_n (j := 1) dX0_left_0 rfl rfl ?_
  refine g_if_lt (tgt := 10) dX0_left_1 (by decide) (fun c1 => ?_) (fun c1 => ?_)
  · rw [if_pos c1] at hf
    refine g_aload_n (j := 0) dX0_left_10 rfl rfl ?_
    exact g_aret dX0_left_11 rfl rfl hX2 hX1 hf
  · rw [if_neg c1] at hf
    refine g_iload_n (j := 1) dX0_left_4 rfl rfl ?_
    refine g_aload_n (j := 0) dX0_left_5 rfl rfl ?_
    obtain ⟨v2, ev2, hf⟩ := ob hf
    refine g_alen dX0_left_6 ev2 ?_
    refine g_icmp_lt (tgt := 12) dX0_left_7 (by decide) (fun c3 => ?_) (fun c3 => ?_)
    · rw [if_pos c3] at hf
      refine g_aload_n (j := 0) dX0_left_12 rfl rfl ?_
      obtain ⟨v4, ev4, hf⟩ := ob hf
      refine g_alen dX0_left_13 ev4 ?_
      refine g_iconst (v := 1) dX0_left_14 (by decide) ?_
      refine g_isub dX0_left_15 ?_
      obtain ⟨σ5, eσ5, hf⟩ := ob hf
      obtain ⟨a6, ea6, hf⟩ := nm_el hf
      refine g_newq9 dX0_left_16 eσ5 (by decide) rfl t_1599 t_329 ea6 ?_
      refine g_astore_n (i := 2) (L' := [(2, rv a6), (0, rv x0), (1, .int x1)]) dX0_left_19 rfl (Nat.le_of_ble_eq_true rfl) rfl ?_
      refine g_iconst (v := 0) dX0_left_20 (by decide) ?_
      refine g_istore_n (i := 3) (L' := [(3, .int 0), (2, rv a6), (0, rv x0), (1, .int x1)]) dX0_left_21 rfl (Nat.le_of_ble_eq_true rfl) (by simp [rv_cat]) ?_
      refine g_sub (L' := [(0, rv x0), (1, .int x1), (2, rv a6), (3, .int 0)]) [2, 3, 1, 0] rfl ?_
      exact bX0_left_22 hX1 hX2 FU _ _ _ _ _ hf
    · rw [if_neg c3] at hf
      refine g_aload_n (j := 0) dX0_left_10 rfl rfl ?_
      exact g_aret dX0_left_11 rfl rfl hX2 hX1 hf

theorem okX0_left (M : Mt) (h1 : 1 + 1 ≤ M.2.2.2.2.1) (h2 : 8 + (4 + 11) + 84 ≤ M.2.2.2.2.2.1) : CallOk M MtX0_left yX0_left 2 := ⟨t_1740, h1, h2, ⟨by decide, by decide⟩, by decide +kernel, t_13⟩
abbrev MtX0_without : Mt := (cX0_without, 3, "ExactlySaid$Book", (Option.some (Jvm.ClassFile.FieldType.object "ExactlySaid$Book")), 4, 154, false)
set_option maxRecDepth 100000 in
set_option maxHeartbeats 4000000 in
theorem wX0_without (l : Launch) {σ σf : St} {x0 : Nat} {x1 : Int32} {r : Nat} (hf : fX0_without σ x0 x1 = some (σf, r)) : Con MtX0_without yX0_without l σ [rv x0, .int x1] σf (some (rv r)) := by
  refine Con.of (by decide +kernel) rfl (fun h => absurd (show false = true from h) (by decide)) (by simp only [sl_n, sl_r, sl_i, sl_l]; exact Nat.le_of_ble_eq_true rfl) ?_
  rw [show lv_args 0 [rv x0, .int x1] = [(0, rv x0), (1, .int x1)] by simp only [la_n, la_r, la_i, la_l] <;> rfl]
  have hX1 : ((l, σ, σf, .inl (some (rv r))) : Xt).2.2.1 = σf := rfl
  have hX2 : ((l, σ, σf, .inl (some (rv r))) : Xt).2.2.2 = .inl (some (rv r)) := rfl
  unfold fX0_without at hf
  obtain ⟨σ1, eσ1, hf⟩ := nm_el hf
  obtain ⟨a2, ea2, hf⟩ := nm_el hf
  refine g_new9 dX0_without_0 hc4 hin4 hty4 hdf4 t_1585 t_327 t_13 eσ1 ea2 ?_
  refine g_dup dX0_without_3 (rv_cat _) ?_
  refine g_aload_n (j := 0) dX0_without_4 rfl rfl ?_
  obtain ⟨v3, ev3, hf⟩ := ob hf
  refine g_getF dX0_without_5 ev3 t_334 hin4 hc4 (by decide) rfl ?_
  refine g_iload_n (j := 1) dX0_without_8 rfl rfl ?_
  obtain ⟨σ4, a5, eσ4, hf⟩ := cb_el hf
  refine g_callS_q dX0_without_9 (wX0_left _ eσ4) (okX0_left _ (by decide) (by decide)) t_1738 t_1739 rfl (Nat.le_trans (cat_le _) (Nat.le_of_ble_eq_true rfl)) rfl ?_
  refine g_aload_n (j := 0) dX0_without_12 rfl rfl ?_
  obtain ⟨v6, ev6, hf⟩ := ob hf
  refine g_getF dX0_without_13 ev6 t_336 hin4 hc4 (by decide) rfl ?_
  refine g_iload_n (j := 1) dX0_without_16 rfl rfl ?_
  refine g_aload_n (j := 0) dX0_without_17 rfl rfl ?_
  obtain ⟨v7, ev7, hf⟩ := ob hf
  refine g_getF dX0_without_18 ev7 t_334 hin4 hc4 (by decide) rfl ?_
  obtain ⟨v8, ev8, hf⟩ := ob hf
  refine g_alen dX0_without_21 ev8 ?_
  refine g_isub dX0_without_22 ?_
  obtain ⟨σ9, a10, eσ9, hf⟩ := cb_el hf
  refine g_callS_q dX0_without_23 (wX0_left _ eσ9) (okX0_left _ (by decide) (by decide)) t_1738 t_1739 rfl (Nat.le_trans (cat_le _) (Nat.le_of_ble_eq_true rfl)) rfl ?_
  obtain ⟨_, h13, hf⟩ := ob hf
  obtain ⟨σ11, v12, eσ11, hf⟩ := cb_el hf
  refine g_callI dX0_without_26 (wX0_init _ eσ11) (okX0_init _ (by decide) (by decide)) rfl (by rw [ckK_el h13]; decide) rfl t_1600 t_331 rfl (Nat.le_trans (cat_le _) (Nat.le_of_ble_eq_true rfl)) rfl ?_
  refine g_astore_n (i := 2) (L' := [(2, rv a2), (0, rv x0), (1, .int x1)]) dX0_without_29 rfl (Nat.le_of_ble_eq_true rfl) rfl ?_
  refine g_aload_n (j := 0) dX0_without_30 rfl rfl ?_
  obtain ⟨_, h16, hf⟩ := ob hf
  obtain ⟨σ14, v15, eσ14, hf⟩ := cb_el hf
  refine g_callV_v dX0_without_31 (wX0_weave _ eσ14) (okX0_weave _ (by decide) (by decide)) (ckK_el h16) hc4 t_1601 t_1603 s_X0_weave rfl (Nat.le_trans (cat_le _) (Nat.le_of_ble_eq_true rfl)) rfl ?_
  refine g_aload_n (j := 0) dX0_without_34 rfl rfl ?_
  exact g_aret dX0_without_35 rfl rfl hX2 hX1 hf

theorem okX0_without (M : Mt) (h1 : 4 + 1 ≤ M.2.2.2.2.1) (h2 : 8 + (3 + 11) + 154 ≤ M.2.2.2.2.2.1) : CallOk M MtX0_without yX0_without 1 := ⟨t_1737, h1, h2, ⟨by decide, by decide⟩, by decide +kernel, t_13⟩
abbrev MtX11_drop : Mt := (cX11_drop, 6, "ExactlySaid", (Option.some Jvm.ClassFile.FieldType.int), 8, 176, false)
set_option maxRecDepth 100000 in
set_option maxHeartbeats 4000000 in
theorem wX11_drop (l : Launch) (hst : l.stackTraces = false) {σ σf : St} {x0 : Nat} {x1 : Int32} {x2 : Int32} {r : (String ⊕ Int32)} (hf : fX11_drop σ x0 x1 x2 = some (σf, r)) : ConT MtX11_drop yX11_drop l σ [rv x0, .int x1, .int x2] σf (ocI r) := by
  refine ConT.of hst (by decide +kernel) rfl (fun h => absurd (show false = true from h) (by decide)) (by simp only [sl_n, sl_r, sl_i, sl_l]; exact Nat.le_of_ble_eq_true rfl) ?_
  rw [show lv_args 0 [rv x0, .int x1, .int x2] = [(0, rv x0), (1, .int x1), (2, .int x2)] by simp only [la_n, la_r, la_i, la_l] <;> rfl]
  have hX1 : ((l, σ, σf, xo (ocI r)) : Xt).2.2.1 = σf := rfl
  have hX2 : ((l, σ, σf, xo (ocI r)) : Xt).2.2.2 = xo (ocI r) := rfl
  generalize ((l, σ, σf, xo (ocI r)) : Xt) = X at hX1 hX2 ⊢
  unfold fX11_drop at hf
  refine g_aload_n (j := 0) dX11_drop_0 rfl rfl ?_
  obtain ⟨_, h3, hf⟩ := ob hf
  obtain ⟨σ1, a2, eσ1, hf⟩ := cb_el hf
  refine g_callV_q dX11_drop_1 (wX11_present _ eσ1) (okX11_present _ (by decide) (by decide)) (ckK_el h3) hc15 t_959 t_961 s_X11_present rfl (Nat.le_trans (cat_le _) (Nat.le_of_ble_eq_true rfl)) rfl ?_
  obtain ⟨v4, ev4, hf⟩ := ob hf
  refine g_getFN dX11_drop_4 ev4 t_367 hin11 hc11 (by decide) rfl ?_
  refine g_astore_n (i := 3) (L' := [(3, rv v4), (0, rv x0), (1, .int x1), (2, .int x2)]) dX11_drop_7 rfl (Nat.le_of_ble_eq_true rfl) rfl ?_
  refine g_aload_n (j := 0) dX11_drop_8 rfl rfl ?_
  refine g_iload_n (j := 2) dX11_drop_9 rfl rfl ?_
  refine g_iload_n (j := 3) dX11_drop_10 rfl rfl ?_
  obtain ⟨_, h7, hf⟩ := ob hf
  obtain ⟨σ5, v6, eσ5, hf⟩ := cb_el hf
  refine g_callVN_i dX11_drop_11 (wX0_find _ eσ5) (okX0_find _ (by decide) (by decide)) (ckK_el h7) hc4 t_971 t_973 s_X0_find rfl (Nat.le_trans (cat_le _) (Nat.le_of_ble_eq_true rfl)) rfl ?_
  refine g_istore (i := 4) (L' := [(4, .int v6), (3, rv v4), (0, rv x0), (1, .int x1), (2, .int x2)]) dX11_drop_14 (Nat.le_of_ble_eq_true rfl) (by simp [rv_cat]) ?_
  refine g_iload (j := 0) dX11_drop_16 rfl ?_
  refine g_iconst (v := (-1)) dX11_drop_18 (by decide) ?_
  refine g_icmp_ne (tgt := 30) dX11_drop_19 (by decide) (fun c8 => ?_) (fun c8 => ?_)
  · rw [if_neg c8] at hf
    refine g_aload_n (j := 1) dX11_drop_30 rfl rfl ?_
    refine g_iload (j := 0) dX11_drop_31 rfl ?_
    obtain ⟨_, h11, hf⟩ := ob hf
    obtain ⟨σ9, v10, eσ9, hf⟩ := cb_el hf
    refine g_callVN_i dX11_drop_33 (wX0_isUsed _ eσ9) (okX0_isUsed _ (by decide) (by decide)) (ckK_el h11) hc4 t_1501 t_1503 s_X0_isUsed rfl (Nat.le_trans (cat_le _) (Nat.le_of_ble_eq_true rfl)) rfl ?_
    refine g_if_eq (tgt := 47) dX11_drop_36 (by decide) (fun c12 => ?_) (fun c12 => ?_)
    · rw [if_pos c12] at hf
      refine g_aload_n (j := 1) dX11_drop_47 rfl rfl ?_
      refine g_iload (j := 0) dX11_drop_48 rfl ?_
      obtain ⟨_, h15, hf⟩ := ob hf
      obtain ⟨σ13, a14, eσ13, hf⟩ := cb_el hf
      refine g_callVN_q dX11_drop_50 (wX0_without _ eσ13) (okX0_without _ (by decide) (by decide)) (ckK_el h15) hc4 t_1734 t_1736 s_X0_without rfl (Nat.le_trans (cat_le _) (Nat.le_of_ble_eq_true rfl)) rfl ?_
      refine g_astore (i := 5) (L' := [(5, rv a14), (4, .int v6), (3, rv v4), (0, rv x0), (1, .int x1), (2, .int x2)]) dX11_drop_53 (Nat.le_of_ble_eq_true rfl) rfl ?_
      refine g_aload_n (j := 3) dX11_drop_55 rfl rfl ?_
      obtain ⟨σ16, eσ16, hf⟩ := nm_el hf
      obtain ⟨a17, ea17, hf⟩ := nm_el hf
      refine g_new9 dX11_drop_56 hc11 hin11 hty11 hdf11 t_147 t_321 t_12 eσ16 ea17 ?_
      refine g_dup dX11_drop_59 (rv_cat _) ?_
      refine g_aload (j := 0) dX11_drop_60 rfl ?_
      refine g_aload_n (j := 3) dX11_drop_62 rfl rfl ?_
      obtain ⟨_, h20, hf⟩ := ob hf
      obtain ⟨σ18, a19, eσ18, hf⟩ := cb_el hf
      refine g_callV_q dX11_drop_63 (wX11_present _ eσ18) (okX11_present _ (by decide) (by decide)) (ckK_el h20) hc15 t_959 t_961 s_X11_present rfl (Nat.le_trans (cat_le _) (Nat.le_of_ble_eq_true rfl)) rfl ?_
      obtain ⟨v21, ev21, hf⟩ := ob hf
      refine g_getFN dX11_drop_66 ev21 t_369 hin11 hc11 (by decide) rfl ?_
      obtain ⟨_, h24, hf⟩ := ob hf
      obtain ⟨σ22, v23, eσ22, hf⟩ := cb_el hf
      refine g_callIN dX11_drop_69 (wX7_init_ _ eσ22) (okX7_init_ _ (by decide) (by decide)) rfl (by rw [ckK_el h24]; decide) rfl t_1611 t_1612 rfl (Nat.le_trans (cat_le _) (Nat.le_of_ble_eq_true rfl)) rfl ?_
      obtain ⟨_, h27, hf⟩ := ob hf
      obtain ⟨σ25, v26, eσ25, hf⟩ := cb_el hf
      refine g_callV_v dX11_drop_72 (wX11_change _ eσ25) (okX11_change _ (by decide) (by decide)) (ckK_el h27) hc15 t_1614 t_1616 s_X11_change rfl (Nat.le_trans (cat_le _) (Nat.le_of_ble_eq_true rfl)) rfl ?_
      refine g_aload (j := 0) dX11_drop_75 rfl ?_
      obtain ⟨v28, ev28, hf⟩ := ob hf
      refine g_getFN dX11_drop_77 ev28 t_335 hin4 hc4 (by decide) rfl ?_
      obtain ⟨v29, ev29, hf⟩ := ob hf
      refine g_alen dX11_drop_80 ev29 ?_
      refine g_aload (j := 0) dX11_drop_81 rfl ?_
      obtain ⟨v30, ev30, hf⟩ := ob hf
      refine g_getFN dX11_drop_83 ev30 t_337 hin4 hc4 (by decide) rfl ?_
      obtain ⟨v31, ev31, hf⟩ := ob hf
      refine g_alen dX11_drop_86 ev31 ?_
      refine g_iadd dX11_drop_87 ?_
      cases hf
      exact g_iret dX11_drop_88 rfl rfl hX2 hX1 rfl
    · rw [if_neg c12] at hf
      cases hf
      exact g_throw (cls := "java/lang/IllegalStateException") (names := ["java/lang/RuntimeException", "java/lang/Exception"]) dX11_drop_39 dX11_drop_42 dX11_drop_43 dX11_drop_46 (by decide +kernel) (by decide +kernel) thw_92 thg_92 (by decide) (by decide) hX2 hX1 rfl
  · rw [if_pos c8] at hf
    cases hf
    exact g_throw (cls := "java/util/NoSuchElementException") (names := ["java/lang/RuntimeException", "java/lang/Exception"]) dX11_drop_22 dX11_drop_25 dX11_drop_26 dX11_drop_29 (by decide +kernel) (by decide +kernel) thw_333 thg_333 (by decide) (by decide) hX2 hX1 rfl

theorem okX11_drop (M : Mt) (h1 : 8 + 1 ≤ M.2.2.2.2.1) (h2 : 8 + (6 + 11) + 176 ≤ M.2.2.2.2.2.1) : CallOk M MtX11_drop yX11_drop 2 := ⟨t_1733, h1, h2, ⟨by decide, by decide⟩, by decide +kernel, t_1⟩
abbrev MtX11_steps : Mt := (cX11_steps, 1, "ExactlySaid", (Option.some Jvm.ClassFile.FieldType.int), 1, 84, false)
set_option maxRecDepth 100000 in
set_option maxHeartbeats 4000000 in
theorem wX11_steps (l : Launch) {σ σf : St} {x0 : Nat} {r : Int32} (hf : fX11_steps σ x0 = some (σf, r)) : Con MtX11_steps yX11_steps l σ [rv x0] σf (some (.int r)) := by
  refine Con.of (by decide +kernel) rfl (fun h => absurd (show false = true from h) (by decide)) (by simp only [sl_n, sl_r, sl_i, sl_l]; exact Nat.le_of_ble_eq_true rfl) ?_
  rw [show lv_args 0 [rv x0] = [(0, rv x0)] by simp only [la_n, la_r, la_i, la_l] <;> rfl]
  have hX1 : ((l, σ, σf, .inl (some (.int r))) : Xt).2.2.1 = σf := rfl
  have hX2 : ((l, σ, σf, .inl (some (.int r))) : Xt).2.2.2 = .inl (some (.int r)) := rfl
  unfold fX11_steps at hf
  refine g_aload_n (j := 0) dX11_steps_0 rfl rfl ?_
  obtain ⟨v1, ev1, hf⟩ := ob hf
  refine g_getF dX11_steps_1 ev1 t_386 hin15 hc15 (by decide) rfl ?_
  obtain ⟨v2, ev2, hf⟩ := ob hf
  refine g_getIN dX11_steps_4 ev2 t_139 hin12 hc12 (by decide) rfl ?_
  exact g_iret dX11_steps_7 rfl rfl hX2 hX1 hf

theorem okX11_steps (M : Mt) (h1 : 1 + 1 ≤ M.2.2.2.2.1) (h2 : 8 + (1 + 11) + 84 ≤ M.2.2.2.2.2.1) : CallOk M MtX11_steps yX11_steps 0 := ⟨t_997, h1, h2, ⟨by decide, by decide⟩, by decide +kernel, t_1⟩
abbrev MtX11_stepAt : Mt := (cX11_stepAt, 2, "ExactlySaid", (Option.some Jvm.ClassFile.FieldType.int), 8, 160, false)
set_option maxRecDepth 100000 in
set_option maxHeartbeats 4000000 in
theorem bX11_stepAt_27 {X : Xt} {σf : St} {r : (String ⊕ Int32)} (hX1 : X.2.2.1 = σf) (hX2 : X.2.2.2 = xo (ocI r)) {σ : St} (hf : fX11_stepAt_27 σ  = some (σf, r)) : G MtX11_stepAt X σ 27 [] [] := by
  unfold fX11_stepAt_27 at hf
  cases hf
  exact g_throw (cls := "java/lang/IndexOutOfBoundsException") (names := ["java/lang/RuntimeException", "java/lang/Exception"]) dX11_stepAt_27 dX11_stepAt_30 dX11_stepAt_31 dX11_stepAt_34 (by decide +kernel) (by decide +kernel) thw_147 thg_147 (by decide) (by decide) hX2 hX1 rfl

set_option maxRecDepth 100000 in
set_option maxHeartbeats 4000000 in
theorem wX11_stepAt (l : Launch) (hst : l.stackTraces = false) {σ σf : St} {x0 : Nat} {x1 : Int32} {r : (String ⊕ Int32)} (hf : fX11_stepAt σ x0 x1 = some (σf, r)) : ConT MtX11_stepAt yX11_stepAt l σ [rv x0, .int x1] σf (ocI r) := by
  refine ConT.of hst (by decide +kernel) rfl (fun h => absurd (show false = true from h) (by decide)) (by simp only [sl_n, sl_r, sl_i, sl_l]; exact Nat.le_of_ble_eq_true rfl) ?_
  rw [show lv_args 0 [rv x0, .int x1] = [(0, rv x0), (1, .int x1)] by simp only [la_n, la_r, la_i, la_l] <;> rfl]
  have hX1 : ((l, σ, σf, xo (ocI r)) : Xt).2.2.1 = σf := rfl
  have hX2 : ((l, σ, σf, xo (ocI r)) : Xt).2.2.2 = xo (ocI r) := rfl
  generalize ((l, σ, σf, xo (ocI r)) : Xt) = X at hX1 hX2 ⊢
  unfold fX11_stepAt at hf
  refine g_iload_n (j := 1) dX11_stepAt_0 rfl rfl ?_
  refine g_if_lt (tgt := 27) dX11_stepAt_1 (by decide) (fun c1 => ?_) (fun c1 => ?_)
  · rw [if_pos c1] at hf
    refine g_sub (L' := []) [] rfl ?_
    exact bX11_stepAt_27 hX1 hX2 hf
  · rw [if_neg c1] at hf
    refine g_iload_n (j := 1) dX11_stepAt_4 rfl rfl ?_
    refine g_aload_n (j := 0) dX11_stepAt_5 rfl rfl ?_
    obtain ⟨v2, ev2, hf⟩ := ob hf
    refine g_getF dX11_stepAt_6 ev2 t_386 hin15 hc15 (by decide) rfl ?_
    obtain ⟨v3, ev3, hf⟩ := ob hf
    refine g_getIN dX11_stepAt_9 ev3 t_139 hin12 hc12 (by decide) rfl ?_
    refine g_icmp_ge (tgt := 27) dX11_stepAt_12 (by decide) (fun c4 => ?_) (fun c4 => ?_)
    · rw [if_pos c4] at hf
      refine g_sub (L' := []) [] rfl ?_
      exact bX11_stepAt_27 hX1 hX2 hf
    · rw [if_neg c4] at hf
      refine g_iload_n (j := 1) dX11_stepAt_15 rfl rfl ?_
      refine g_aload_n (j := 0) dX11_stepAt_16 rfl rfl ?_
      obtain ⟨v5, ev5, hf⟩ := ob hf
      refine g_getF dX11_stepAt_17 ev5 t_386 hin15 hc15 (by decide) rfl ?_
      obtain ⟨v6, ev6, hf⟩ := ob hf
      refine g_getFN dX11_stepAt_20 ev6 t_135 hin12 hc12 (by decide) rfl ?_
      obtain ⟨v7, ev7, hf⟩ := ob hf
      refine g_alen dX11_stepAt_23 ev7 ?_
      refine g_icmp_lt (tgt := 35) dX11_stepAt_24 (by decide) (fun c8 => ?_) (fun c8 => ?_)
      · rw [if_pos c8] at hf
        refine g_aload_n (j := 0) dX11_stepAt_35 rfl rfl ?_
        obtain ⟨v9, ev9, hf⟩ := ob hf
        refine g_getF dX11_stepAt_36 ev9 t_386 hin15 hc15 (by decide) rfl ?_
        obtain ⟨v10, ev10, hf⟩ := ob hf
        refine g_getFN dX11_stepAt_39 ev10 t_135 hin12 hc12 (by decide) rfl ?_
        refine g_iload_n (j := 1) dX11_stepAt_42 rfl rfl ?_
        obtain ⟨v11, ev11, hf⟩ := ob hf
        refine g_iald dX11_stepAt_43 ev11 ?_
        cases hf
        exact g_iret dX11_stepAt_44 rfl rfl hX2 hX1 rfl
      · rw [if_neg c8] at hf
        refine g_sub (L' := []) [] rfl ?_
        exact bX11_stepAt_27 hX1 hX2 hf

theorem okX11_stepAt (M : Mt) (h1 : 8 + 1 ≤ M.2.2.2.2.1) (h2 : 8 + (2 + 11) + 160 ≤ M.2.2.2.2.2.1) : CallOk M MtX11_stepAt yX11_stepAt 1 := ⟨t_1747, h1, h2, ⟨by decide, by decide⟩, by decide +kernel, t_1⟩
abbrev MtX11_takeCopy : Mt := (cX11_takeCopy, 2, "ExactlySaid", (Option.some Jvm.ClassFile.FieldType.int), 4, 148, false)
set_option maxRecDepth 100000 in
set_option maxHeartbeats 4000000 in
theorem wX11_takeCopy (l : Launch) {σ σf : St} {x0 : Nat} {x1 : Nat} {r : Int32} (hf : fX11_takeCopy σ x0 x1 = some (σf, r)) : Con MtX11_takeCopy yX11_takeCopy l σ [rv x0, rv x1] σf (some (.int r)) := by
  refine Con.of (by decide +kernel) rfl (fun h => absurd (show false = true from h) (by decide)) (by simp only [sl_n, sl_r, sl_i, sl_l]; exact Nat.le_of_ble_eq_true rfl) ?_
  rw [show lv_args 0 [rv x0, rv x1] = [(0, rv x0), (1, rv x1)] by simp only [la_n, la_r, la_i, la_l] <;> rfl]
  have hX1 : ((l, σ, σf, .inl (some (.int r))) : Xt).2.2.1 = σf := rfl
  have hX2 : ((l, σ, σf, .inl (some (.int r))) : Xt).2.2.2 = .inl (some (.int r)) := rfl
  unfold fX11_takeCopy at hf
  refine g_aload_n (j := 0) dX11_takeCopy_0 rfl rfl ?_
  obtain ⟨σ1, eσ1, hf⟩ := nm_el hf
  obtain ⟨a2, ea2, hf⟩ := nm_el hf
  refine g_new9 dX11_takeCopy_1 hc5 hin5 hty5 hdf5 t_44 t_45 t_2 eσ1 ea2 ?_
  refine g_dup dX11_takeCopy_4 (rv_cat _) ?_
  refine g_aload_n (j := 1) dX11_takeCopy_5 rfl rfl ?_
  obtain ⟨_, h5, hf⟩ := ob hf
  obtain ⟨σ3, v4, eσ3, hf⟩ := cb_el hf
  refine g_callIN dX11_takeCopy_6 (wX1_init_ _ eσ3) (okX1_init_ _ (by decide) (by decide)) rfl (by rw [ckK_el h5]; decide) rfl t_1544 t_1545 rfl (Nat.le_trans (cat_le _) (Nat.le_of_ble_eq_true rfl)) rfl ?_
  obtain ⟨σ6, eσ6, hf⟩ := ob hf
  refine g_putF dX11_takeCopy_9 eσ6 (Or.inl t_383) hin15 hc15 (by decide) hty15 hnm15 (Or.inl rfl) rfl ?_
  refine g_aload_n (j := 0) dX11_takeCopy_12 rfl rfl ?_
  obtain ⟨v7, ev7, hf⟩ := ob hf
  refine g_getF dX11_takeCopy_13 ev7 t_383 hin15 hc15 (by decide) rfl ?_
  obtain ⟨v8, ev8, hf⟩ := ob hf
  refine g_getIN dX11_takeCopy_16 ev8 t_75 hin5 hc5 (by decide) rfl ?_
  exact g_iret dX11_takeCopy_19 rfl rfl hX2 hX1 hf

theorem okX11_takeCopy (M : Mt) (h1 : 4 + 1 ≤ M.2.2.2.2.1) (h2 : 8 + (2 + 11) + 148 ≤ M.2.2.2.2.2.1) : CallOk M MtX11_takeCopy yX11_takeCopy 1 := ⟨t_1758, h1, h2, ⟨by decide, by decide⟩, by decide +kernel, t_1⟩
abbrev MtX11_takeStep : Mt := (cX11_takeStep, 2, "ExactlySaid", (Option.some Jvm.ClassFile.FieldType.int), 8, 169, false)
set_option maxRecDepth 100000 in
set_option maxHeartbeats 4000000 in
theorem bX11_takeStep_27 {X : Xt} {σf : St} {r : (String ⊕ Int32)} (hX1 : X.2.2.1 = σf) (hX2 : X.2.2.2 = xo (ocI r)) {σ : St} (hf : fX11_takeStep_27 σ  = some (σf, r)) : G MtX11_takeStep X σ 27 [] [] := by
  unfold fX11_takeStep_27 at hf
  cases hf
  exact g_throw (cls := "java/lang/IndexOutOfBoundsException") (names := ["java/lang/RuntimeException", "java/lang/Exception"]) dX11_takeStep_27 dX11_takeStep_30 dX11_takeStep_31 dX11_takeStep_34 (by decide +kernel) (by decide +kernel) thw_147 thg_147 (by decide) (by decide) hX2 hX1 rfl

set_option maxRecDepth 100000 in
set_option maxHeartbeats 4000000 in
theorem wX11_takeStep (l : Launch) (hst : l.stackTraces = false) {σ σf : St} {x0 : Nat} {x1 : Int32} {r : (String ⊕ Int32)} (hf : fX11_takeStep σ x0 x1 = some (σf, r)) : ConT MtX11_takeStep yX11_takeStep l σ [rv x0, .int x1] σf (ocI r) := by
  refine ConT.of hst (by decide +kernel) rfl (fun h => absurd (show false = true from h) (by decide)) (by simp only [sl_n, sl_r, sl_i, sl_l]; exact Nat.le_of_ble_eq_true rfl) ?_
  rw [show lv_args 0 [rv x0, .int x1] = [(0, rv x0), (1, .int x1)] by simp only [la_n, la_r, la_i, la_l] <;> rfl]
  have hX1 : ((l, σ, σf, xo (ocI r)) : Xt).2.2.1 = σf := rfl
  have hX2 : ((l, σ, σf, xo (ocI r)) : Xt).2.2.2 = xo (ocI r) := rfl
  generalize ((l, σ, σf, xo (ocI r)) : Xt) = X at hX1 hX2 ⊢
  unfold fX11_takeStep at hf
  refine g_iload_n (j := 1) dX11_takeStep_0 rfl rfl ?_
  refine g_if_lt (tgt := 27) dX11_takeStep_1 (by decide) (fun c1 => ?_) (fun c1 => ?_)
  · rw [if_pos c1] at hf
    refine g_sub (L' := []) [] rfl ?_
    exact bX11_takeStep_27 hX1 hX2 hf
  · rw [if_neg c1] at hf
    refine g_iload_n (j := 1) dX11_takeStep_4 rfl rfl ?_
    refine g_aload_n (j := 0) dX11_takeStep_5 rfl rfl ?_
    obtain ⟨v2, ev2, hf⟩ := ob hf
    refine g_getF dX11_takeStep_6 ev2 t_386 hin15 hc15 (by decide) rfl ?_
    obtain ⟨v3, ev3, hf⟩ := ob hf
    refine g_getIN dX11_takeStep_9 ev3 t_139 hin12 hc12 (by decide) rfl ?_
    refine g_icmp_ge (tgt := 27) dX11_takeStep_12 (by decide) (fun c4 => ?_) (fun c4 => ?_)
    · rw [if_pos c4] at hf
      refine g_sub (L' := []) [] rfl ?_
      exact bX11_takeStep_27 hX1 hX2 hf
    · rw [if_neg c4] at hf
      refine g_iload_n (j := 1) dX11_takeStep_15 rfl rfl ?_
      refine g_aload_n (j := 0) dX11_takeStep_16 rfl rfl ?_
      obtain ⟨v5, ev5, hf⟩ := ob hf
      refine g_getF dX11_takeStep_17 ev5 t_386 hin15 hc15 (by decide) rfl ?_
      obtain ⟨v6, ev6, hf⟩ := ob hf
      refine g_getFN dX11_takeStep_20 ev6 t_137 hin12 hc12 (by decide) rfl ?_
      obtain ⟨v7, ev7, hf⟩ := ob hf
      refine g_alen dX11_takeStep_23 ev7 ?_
      refine g_icmp_lt (tgt := 35) dX11_takeStep_24 (by decide) (fun c8 => ?_) (fun c8 => ?_)
      · rw [if_pos c8] at hf
        refine g_aload_n (j := 0) dX11_takeStep_35 rfl rfl ?_
        refine g_aload_n (j := 0) dX11_takeStep_36 rfl rfl ?_
        obtain ⟨v9, ev9, hf⟩ := ob hf
        refine g_getF dX11_takeStep_37 ev9 t_386 hin15 hc15 (by decide) rfl ?_
        obtain ⟨v10, ev10, hf⟩ := ob hf
        refine g_getFN dX11_takeStep_40 ev10 t_137 hin12 hc12 (by decide) rfl ?_
        refine g_iload_n (j := 1) dX11_takeStep_43 rfl rfl ?_
        obtain ⟨v11, ev11, hf⟩ := ob hf
        refine g_aald dX11_takeStep_44 (by decide) rfl ev11 ?_
        obtain ⟨_, h14, hf⟩ := ob hf
        obtain ⟨σ12, v13, eσ12, hf⟩ := cb_el hf
        refine g_callV_i dX11_takeStep_45 (wX11_takeCopy _ eσ12) (okX11_takeCopy _ (by decide) (by decide)) (ckK_el h14) hc15 t_1755 t_1757 s_X11_takeCopy rfl (Nat.le_trans (cat_le _) (Nat.le_of_ble_eq_true rfl)) rfl ?_
        cases hf
        exact g_iret dX11_takeStep_48 rfl rfl hX2 hX1 rfl
      · rw [if_neg c8] at hf
        refine g_sub (L' := []) [] rfl ?_
        exact bX11_takeStep_27 hX1 hX2 hf

theorem okX11_takeStep (M : Mt) (h1 : 8 + 1 ≤ M.2.2.2.2.1) (h2 : 8 + (2 + 11) + 169 ≤ M.2.2.2.2.2.1) : CallOk M MtX11_takeStep yX11_takeStep 1 := ⟨t_1754, h1, h2, ⟨by decide, by decide⟩, by decide +kernel, t_1⟩
abbrev MtX11_ends : Mt := (cX11_ends, 1, "ExactlySaid", (Option.some Jvm.ClassFile.FieldType.boolean), 4, 190, false)
set_option maxRecDepth 100000 in
set_option maxHeartbeats 4000000 in
theorem wX11_ends (l : Launch) {σ σf : St} {x0 : Nat} {r : Int32} (hf : fX11_ends σ x0 = some (σf, r)) : Con MtX11_ends yX11_ends l σ [rv x0] σf (some (.int r)) := by
  refine Con.of (by decide +kernel) rfl (fun h => absurd (show false = true from h) (by decide)) (by simp only [sl_n, sl_r, sl_i, sl_l]; exact Nat.le_of_ble_eq_true rfl) ?_
  rw [show lv_args 0 [rv x0] = [(0, rv x0)] by simp only [la_n, la_r, la_i, la_l] <;> rfl]
  have hX1 : ((l, σ, σf, .inl (some (.int r))) : Xt).2.2.1 = σf := rfl
  have hX2 : ((l, σ, σf, .inl (some (.int r))) : Xt).2.2.2 = .inl (some (.int r)) := rfl
  unfold fX11_ends at hf
  refine g_aload_n (j := 0) dX11_ends_0 rfl rfl ?_
  obtain ⟨v1, ev1, hf⟩ := ob hf
  refine g_getF dX11_ends_1 ev1 t_391 hin15 hc15 (by decide) rfl ?_
  refine g_aload_n (j := 0) dX11_ends_4 rfl rfl ?_
  obtain ⟨v2, ev2, hf⟩ := ob hf
  refine g_getF dX11_ends_5 ev2 t_383 hin15 hc15 (by decide) rfl ?_
  obtain ⟨_, h5, hf⟩ := ob hf
  obtain ⟨σ3, v4, eσ3, hf⟩ := cb_el hf
  refine g_callVN_i dX11_ends_8 (wX5_lengthAhead _ eσ3) (okX5_lengthAhead _ (by decide) (by decide)) (ckK_el h5) hc9 t_859 t_861 s_X5_lengthAhead rfl (Nat.le_trans (cat_le _) (Nat.le_of_ble_eq_true rfl)) rfl ?_
  refine g_pop dX11_ends_11 rfl ?_
  refine g_aload_n (j := 0) dX11_ends_12 rfl rfl ?_
  obtain ⟨v6, ev6, hf⟩ := ob hf
  refine g_getF dX11_ends_13 ev6 t_391 hin15 hc15 (by decide) rfl ?_
  refine g_iconst (v := 1) dX11_ends_16 (by decide) ?_
  obtain ⟨_, h9, hf⟩ := ob hf
  obtain ⟨σ7, v8, eσ7, hf⟩ := cb_el hf
  refine g_callVN_i dX11_ends_17 (wX5_lengthRepeating _ eσ7) (okX5_lengthRepeating _ (by decide) (by decide)) (ckK_el h9) hc9 t_876 t_878 s_X5_lengthRepeating rfl (Nat.le_trans (cat_le _) (Nat.le_of_ble_eq_true rfl)) rfl ?_
  refine g_if_ne (tgt := 27) dX11_ends_20 (by decide) (fun c10 => ?_) (fun c10 => ?_)
  · rw [if_neg c10] at hf
    refine g_iconst (v := 0) dX11_ends_27 (by decide) ?_
    exact g_iret dX11_ends_28 rfl (by decide) hX2 hX1 hf
  · rw [if_pos c10] at hf
    refine g_iconst (v := 1) dX11_ends_23 (by decide) ?_
    refine g_goto (tgt := 28) dX11_ends_24 (by decide) ?_
    exact g_iret dX11_ends_28 rfl (by decide) hX2 hX1 hf

theorem okX11_ends (M : Mt) (h1 : 4 + 1 ≤ M.2.2.2.2.1) (h2 : 8 + (1 + 11) + 190 ≤ M.2.2.2.2.2.1) : CallOk M MtX11_ends yX11_ends 0 := ⟨t_1001, h1, h2, ⟨by decide, by decide⟩, by decide +kernel, t_1⟩
abbrev MtX11_ahead : Mt := (cX11_ahead, 1, "ExactlySaid", (Option.some Jvm.ClassFile.FieldType.int), 3, 131, false)
set_option maxRecDepth 100000 in
set_option maxHeartbeats 4000000 in
theorem wX11_ahead (l : Launch) {σ σf : St} {x0 : Nat} {r : Int32} (hf : fX11_ahead σ x0 = some (σf, r)) : Con MtX11_ahead yX11_ahead l σ [rv x0] σf (some (.int r)) := by
  refine Con.of (by decide +kernel) rfl (fun h => absurd (show false = true from h) (by decide)) (by simp only [sl_n, sl_r, sl_i, sl_l]; exact Nat.le_of_ble_eq_true rfl) ?_
  rw [show lv_args 0 [rv x0] = [(0, rv x0)] by simp only [la_n, la_r, la_i, la_l] <;> rfl]
  have hX1 : ((l, σ, σf, .inl (some (.int r))) : Xt).2.2.1 = σf := rfl
  have hX2 : ((l, σ, σf, .inl (some (.int r))) : Xt).2.2.2 = .inl (some (.int r)) := rfl
  unfold fX11_ahead at hf
  refine g_aload_n (j := 0) dX11_ahead_0 rfl rfl ?_
  obtain ⟨v1, ev1, hf⟩ := ob hf
  refine g_getF dX11_ahead_1 ev1 t_391 hin15 hc15 (by decide) rfl ?_
  refine g_aload_n (j := 0) dX11_ahead_4 rfl rfl ?_
  obtain ⟨v2, ev2, hf⟩ := ob hf
  refine g_getF dX11_ahead_5 ev2 t_383 hin15 hc15 (by decide) rfl ?_
  obtain ⟨_, h5, hf⟩ := ob hf
  obtain ⟨σ3, v4, eσ3, hf⟩ := cb_el hf
  refine g_callVN_i dX11_ahead_8 (wX5_lengthAhead _ eσ3) (okX5_lengthAhead _ (by decide) (by decide)) (ckK_el h5) hc9 t_859 t_861 s_X5_lengthAhead rfl (Nat.le_trans (cat_le _) (Nat.le_of_ble_eq_true rfl)) rfl ?_
  exact g_iret dX11_ahead_11 rfl rfl hX2 hX1 hf

theorem okX11_ahead (M : Mt) (h1 : 3 + 1 ≤ M.2.2.2.2.1) (h2 : 8 + (1 + 11) + 131 ≤ M.2.2.2.2.2.1) : CallOk M MtX11_ahead yX11_ahead 0 := ⟨t_1005, h1, h2, ⟨by decide, by decide⟩, by decide +kernel, t_1⟩
abbrev MtX11_repeating : Mt := (cX11_repeating, 1, "ExactlySaid", (Option.some Jvm.ClassFile.FieldType.int), 4, 190, false)
set_option maxRecDepth 100000 in
set_option maxHeartbeats 4000000 in
theorem wX11_repeating (l : Launch) {σ σf : St} {x0 : Nat} {r : Int32} (hf : fX11_repeating σ x0 = some (σf, r)) : Con MtX11_repeating yX11_repeating l σ [rv x0] σf (some (.int r)) := by
  refine Con.of (by decide +kernel) rfl (fun h => absurd (show false = true from h) (by decide)) (by simp only [sl_n, sl_r, sl_i, sl_l]; exact Nat.le_of_ble_eq_true rfl) ?_
  rw [show lv_args 0 [rv x0] = [(0, rv x0)] by simp only [la_n, la_r, la_i, la_l] <;> rfl]
  have hX1 : ((l, σ, σf, .inl (some (.int r))) : Xt).2.2.1 = σf := rfl
  have hX2 : ((l, σ, σf, .inl (some (.int r))) : Xt).2.2.2 = .inl (some (.int r)) := rfl
  unfold fX11_repeating at hf
  refine g_aload_n (j := 0) dX11_repeating_0 rfl rfl ?_
  obtain ⟨v1, ev1, hf⟩ := ob hf
  refine g_getF dX11_repeating_1 ev1 t_391 hin15 hc15 (by decide) rfl ?_
  refine g_aload_n (j := 0) dX11_repeating_4 rfl rfl ?_
  obtain ⟨v2, ev2, hf⟩ := ob hf
  refine g_getF dX11_repeating_5 ev2 t_383 hin15 hc15 (by decide) rfl ?_
  obtain ⟨_, h5, hf⟩ := ob hf
  obtain ⟨σ3, v4, eσ3, hf⟩ := cb_el hf
  refine g_callVN_i dX11_repeating_8 (wX5_lengthAhead _ eσ3) (okX5_lengthAhead _ (by decide) (by decide)) (ckK_el h5) hc9 t_859 t_861 s_X5_lengthAhead rfl (Nat.le_trans (cat_le _) (Nat.le_of_ble_eq_true rfl)) rfl ?_
  refine g_pop dX11_repeating_11 rfl ?_
  refine g_aload_n (j := 0) dX11_repeating_12 rfl rfl ?_
  obtain ⟨v6, ev6, hf⟩ := ob hf
  refine g_getF dX11_repeating_13 ev6 t_391 hin15 hc15 (by decide) rfl ?_
  refine g_sipush (v := 1000) dX11_repeating_16 (by decide) ?_
  obtain ⟨_, h9, hf⟩ := ob hf
  obtain ⟨σ7, v8, eσ7, hf⟩ := cb_el hf
  refine g_callVN_i dX11_repeating_19 (wX5_lengthRepeating _ eσ7) (okX5_lengthRepeating _ (by decide) (by decide)) (ckK_el h9) hc9 t_876 t_878 s_X5_lengthRepeating rfl (Nat.le_trans (cat_le _) (Nat.le_of_ble_eq_true rfl)) rfl ?_
  exact g_iret dX11_repeating_22 rfl rfl hX2 hX1 hf

theorem okX11_repeating (M : Mt) (h1 : 4 + 1 ≤ M.2.2.2.2.1) (h2 : 8 + (1 + 11) + 190 ≤ M.2.2.2.2.2.1) : CallOk M MtX11_repeating yX11_repeating 0 := ⟨t_1009, h1, h2, ⟨by decide, by decide⟩, by decide +kernel, t_1⟩
abbrev MtX11_decimal : Mt := (cX11_decimal, 4, "ExactlySaid", (Option.some Jvm.ClassFile.FieldType.int), 8, 217, false)
set_option maxRecDepth 100000 in
set_option maxHeartbeats 4000000 in
theorem bX11_decimal_12 {X : Xt} {σf : St} {r : (String ⊕ Int32)} (hX1 : X.2.2.1 = σf) (hX2 : X.2.2.2 = xo (ocI r)) {σ : St} (hf : fX11_decimal_12 σ  = some (σf, r)) : G MtX11_decimal X σ 12 [] [] := by
  unfold fX11_decimal_12 at hf
  cases hf
  exact g_throw (cls := "java/lang/IllegalArgumentException") (names := ["java/lang/RuntimeException", "java/lang/Exception"]) dX11_decimal_12 dX11_decimal_15 dX11_decimal_16 dX11_decimal_19 (by decide +kernel) (by decide +kernel) thw_103 thg_103 (by decide) (by decide) hX2 hX1 rfl

set_option maxRecDepth 100000 in
set_option maxHeartbeats 4000000 in
theorem bX11_decimal_36 {X : Xt} {σf : St} {r : (String ⊕ Int32)} (hX1 : X.2.2.1 = σf) (hX2 : X.2.2.2 = xo (ocI r)) : ∀ (n : Nat) (σ : St) (x0 : Nat) (x2 : Int32) (x3 : Int32), fX11_decimal_36 n σ x0 x2 x3 = some (σf, r) → G MtX11_decimal X σ 36 [(0, rv x0), (2, .int x2), (3, .int x3)] [] := by
  intro n
  induction n with
  | zero => intro σ x0 x2 x3 hf; cases hf
  | succ n ih =>
    intro σ x0 x2 x3 hf
    rw [fX11_decimal_36] at hf
    refine g_iload_n (j := 2) dX11_decimal_36 rfl rfl ?_
    refine g_if_le (tgt := 67) dX11_decimal_37 (by decide) (fun c1 => ?_) (fun c1 => ?_)
    · rw [if_pos c1] at hf
      refine g_iload_n (j := 1) dX11_decimal_67 rfl rfl ?_
      cases hf
      exact g_iret dX11_decimal_68 rfl rfl hX2 hX1 rfl
    · rw [if_neg c1] at hf
      refine g_aload_n (j := 0) dX11_decimal_40 rfl rfl ?_
      obtain ⟨v2, ev2, hf⟩ := ob hf
      refine g_getF dX11_decimal_41 ev2 t_391 hin15 hc15 (by decide) rfl ?_
      refine g_aload_n (j := 0) dX11_decimal_44 rfl rfl ?_
      obtain ⟨v3, ev3, hf⟩ := ob hf
      refine g_getF dX11_decimal_45 ev3 t_383 hin15 hc15 (by decide) rfl ?_
      refine g_iload_n (j := 2) dX11_decimal_48 rfl rfl ?_
      refine g_bipush (v := 9) dX11_decimal_49 (by decide) ?_
      refine g_mmin dX11_decimal_51 t_1766 t_523 t_15 t_524 (by decide) (by decide) (Nat.le_of_ble_eq_true rfl) ?_
      obtain ⟨_, h6, hf⟩ := ob hf
      obtain ⟨σ4, v5, eσ4, hf⟩ := cb_el hf
      refine g_callVN_i dX11_decimal_54 (wX5_nextDecimals _ eσ4) (okX5_nextDecimals _ (by decide) (by decide)) (ckK_el h6) hc9 t_948 t_950 s_X5_nextDecimals rfl (Nat.le_trans (cat_le _) (Nat.le_of_ble_eq_true rfl)) rfl ?_
      refine g_bipush (v := 10) dX11_decimal_57 (by decide) ?_
      refine g_irem dX11_decimal_59 (by decide) ?_
      obtain ⟨v7, ev7, hf⟩ := nm_el hf
      refine g_topI ev7 ?_
      refine g_istore_n (i := 2) (L' := [(2, .int v7), (0, rv x0), (3, .int x3)]) dX11_decimal_60 rfl (Nat.le_of_ble_eq_true rfl) rfl ?_
      obtain ⟨v8, ev8, hf⟩ := nm_el hf
      refine g_iinc (L' := [(3, .int v8), (2, .int v7), (0, rv x0)]) (j := 2) (v := v8) dX11_decimal_61 rfl (by rw [ev8]; rfl) (Nat.le_of_ble_eq_true rfl) rfl ?_
      refine g_goto (tgt := 36) dX11_decimal_64 (by decide) ?_
      refine g_sub (L' := [(0, rv x0), (2, .int v7), (3, .int v8)]) [2, 1, 0] rfl ?_
      exact ih _ _ _ _ hf

set_option maxRecDepth 100000 in
set_option maxHeartbeats 4000000 in
theorem wX11_decimal (l : Launch) (hst : l.stackTraces = false) {σ σf : St} {x0 : Nat} {x1 : Int32} {r : (String ⊕ Int32)} (hf : fX11_decimal σ x0 x1 = some (σf, r)) : ConT MtX11_decimal yX11_decimal l σ [rv x0, .int x1] σf (ocI r) := by
  refine ConT.of hst (by decide +kernel) rfl (fun h => absurd (show false = true from h) (by decide)) (by simp only [sl_n, sl_r, sl_i, sl_l]; exact Nat.le_of_ble_eq_true rfl) ?_
  rw [show lv_args 0 [rv x0, .int x1] = [(0, rv x0), (1, .int x1)] by simp only [la_n, la_r, la_i, la_l] <;> rfl]
  have hX1 : ((l, σ, σf, xo (ocI r)) : Xt).2.2.1 = σf := rfl
  have hX2 : ((l, σ, σf, xo (ocI r)) : Xt).2.2.2 = xo (ocI r) := rfl
  generalize ((l, σ, σf, xo (ocI r)) : Xt) = X at hX1 hX2 ⊢
  unfold fX11_decimal at hf
  refine g_iload_n (j := 1) dX11_decimal_0 rfl rfl ?_
  refine g_iconst (v := 1) dX11_decimal_1 (by decide) ?_
  refine g_icmp_lt (tgt := 12) dX11_decimal_2 (by decide) (fun c1 => ?_) (fun c1 => ?_)
  · rw [if_pos c1] at hf
    refine g_sub (L' := []) [] rfl ?_
    exact bX11_decimal_12 hX1 hX2 hf
  · rw [if_neg c1] at hf
    refine g_iload_n (j := 1) dX11_decimal_5 rfl rfl ?_
    refine g_sipush (v := 1000) dX11_decimal_6 (by decide) ?_
    refine g_icmp_le (tgt := 20) dX11_decimal_9 (by decide) (fun c2 => ?_) (fun c2 => ?_)
    · rw [if_pos c2] at hf
      refine g_aload_n (j := 0) dX11_decimal_20 rfl rfl ?_
      obtain ⟨v3, ev3, hf⟩ := ob hf
      refine g_getF dX11_decimal_21 ev3 t_391 hin15 hc15 (by decide) rfl ?_
      refine g_aload_n (j := 0) dX11_decimal_24 rfl rfl ?_
      obtain ⟨v4, ev4, hf⟩ := ob hf
      refine g_getF dX11_decimal_25 ev4 t_383 hin15 hc15 (by decide) rfl ?_
      obtain ⟨_, h7, hf⟩ := ob hf
      obtain ⟨σ5, a6, eσ5, hf⟩ := cb_el hf
      refine g_callVN_q dX11_decimal_28 (wX5_startDecimals _ eσ5) (okX5_startDecimals _ (by decide) (by decide)) (ckK_el h7) hc9 t_925 t_927 s_X5_startDecimals rfl (Nat.le_trans (cat_le _) (Nat.le_of_ble_eq_true rfl)) rfl ?_
      refine g_pop dX11_decimal_31 (rv_cat _) ?_
      refine g_iconst (v := 0) dX11_decimal_32 (by decide) ?_
      refine g_istore_n (i := 2) (L' := [(2, .int 0), (0, rv x0), (1, .int x1)]) dX11_decimal_33 rfl (Nat.le_of_ble_eq_true rfl) rfl ?_
      refine g_iload_n (j := 2) dX11_decimal_34 rfl rfl ?_
      refine g_istore_n (i := 3) (L' := [(3, .int x1), (2, .int 0), (0, rv x0), (1, .int x1)]) dX11_decimal_35 rfl (Nat.le_of_ble_eq_true rfl) rfl ?_
      refine g_sub (L' := [(0, rv x0), (2, .int 0), (3, .int x1)]) [2, 1, 0] rfl ?_
      exact bX11_decimal_36 hX1 hX2 FU _ _ _ _ hf
    · rw [if_neg c2] at hf
      refine g_sub (L' := []) [] rfl ?_
      exact bX11_decimal_12 hX1 hX2 hf

theorem okX11_decimal (M : Mt) (h1 : 8 + 1 ≤ M.2.2.2.2.1) (h2 : 8 + (4 + 11) + 217 ≤ M.2.2.2.2.2.1) : CallOk M MtX11_decimal yX11_decimal 1 := ⟨t_1765, h1, h2, ⟨by decide, by decide⟩, by decide +kernel, t_1⟩
abbrev MtX5_setAboveFloor : Mt := (cX5_setAboveFloor, 2, "ExactlySaid$Reckoner", none, 4, 195, false)
set_option maxRecDepth 100000 in
set_option maxHeartbeats 4000000 in
theorem wX5_setAboveFloor (l : Launch) {σ σf : St} {x0 : Nat} {x1 : Nat} {r : Unit} (hf : fX5_setAboveFloor σ x0 x1 = some (σf, r)) : Con MtX5_setAboveFloor yX5_setAboveFloor l σ [rv x0, rv x1] σf (none) := by
  refine Con.of (by decide +kernel) rfl (fun h => absurd (show false = true from h) (by decide)) (by simp only [sl_n, sl_r, sl_i, sl_l]; exact Nat.le_of_ble_eq_true rfl) ?_
  rw [show lv_args 0 [rv x0, rv x1] = [(0, rv x0), (1, rv x1)] by simp only [la_n, la_r, la_i, la_l] <;> rfl]
  have hX1 : ((l, σ, σf, .inl (none)) : Xt).2.2.1 = σf := rfl
  have hX2 : ((l, σ, σf, .inl (none)) : Xt).2.2.2 = .inl (none) := rfl
  unfold fX5_setAboveFloor at hf
  refine g_aload_n (j := 0) dX5_setAboveFloor_0 rfl rfl ?_
  refine g_aload_n (j := 1) dX5_setAboveFloor_1 rfl rfl ?_
  obtain ⟨v1, ev1, hf⟩ := ob hf
  refine g_getFN dX5_setAboveFloor_2 ev1 t_77 hin5 hc5 (by decide) rfl ?_
  refine g_aload_n (j := 1) dX5_setAboveFloor_5 rfl rfl ?_
  obtain ⟨v2, ev2, hf⟩ := ob hf
  refine g_getFN dX5_setAboveFloor_6 ev2 t_82 hin5 hc5 (by decide) rfl ?_
  refine g_aload_n (j := 0) dX5_setAboveFloor_9 rfl rfl ?_
  obtain ⟨v3, ev3, hf⟩ := ob hf
  refine g_getF dX5_setAboveFloor_10 ev3 t_166 hin9 hc9 (by decide) rfl ?_
  refine g_aload_n (j := 0) dX5_setAboveFloor_13 rfl rfl ?_
  obtain ⟨v4, ev4, hf⟩ := ob hf
  refine g_getF dX5_setAboveFloor_14 ev4 t_168 hin9 hc9 (by decide) rfl ?_
  obtain ⟨_, h7, hf⟩ := ob hf
  obtain ⟨σ5, v6, eσ5, hf⟩ := cb_el hf
  refine g_callV_v dX5_setAboveFloor_17 (wX5_divide _ eσ5) (okX5_divide _ (by decide) (by decide)) (ckK_el h7) hc9 t_929 t_931 s_X5_divide rfl (Nat.le_trans (cat_le _) (Nat.le_of_ble_eq_true rfl)) rfl ?_
  refine g_aload_n (j := 1) dX5_setAboveFloor_20 rfl rfl ?_
  obtain ⟨v8, ev8, hf⟩ := ob hf
  refine g_getIN dX5_setAboveFloor_21 ev8 t_73 hin5 hc5 (by decide) rfl ?_
  refine g_if_ge (tgt := 70) dX5_setAboveFloor_24 (by decide) (fun c9 => ?_) (fun c9 => ?_)
  · rw [if_pos c9] at hf
    exact g_vret dX5_setAboveFloor_70 rfl hX2 hX1 hf
  · rw [if_neg c9] at hf
    refine g_aload_n (j := 0) dX5_setAboveFloor_27 rfl rfl ?_
    obtain ⟨v10, ev10, hf⟩ := ob hf
    refine g_getF dX5_setAboveFloor_28 ev10 t_168 hin9 hc9 (by decide) rfl ?_
    obtain ⟨_, h13, hf⟩ := ob hf
    obtain ⟨σ11, v12, eσ11, hf⟩ := cb_el hf
    refine g_callVN_i dX5_setAboveFloor_31 (wX3_isZero _ eσ11) (okX3_isZero _ (by decide) (by decide)) (ckK_el h13) hc7 t_1022 t_1024 s_X3_isZero rfl (Nat.le_trans (cat_le _) (Nat.le_of_ble_eq_true rfl)) rfl ?_
    refine g_if_ne (tgt := 70) dX5_setAboveFloor_34 (by decide) (fun c14 => ?_) (fun c14 => ?_)
    · rw [if_neg c14] at hf
      exact g_vret dX5_setAboveFloor_70 rfl hX2 hX1 hf
    · rw [if_pos c14] at hf
      refine g_aload_n (j := 0) dX5_setAboveFloor_37 rfl rfl ?_
      obtain ⟨v15, ev15, hf⟩ := ob hf
      refine g_getF dX5_setAboveFloor_38 ev15 t_169 hin9 hc9 (by decide) rfl ?_
      refine g_aload_n (j := 1) dX5_setAboveFloor_41 rfl rfl ?_
      obtain ⟨v16, ev16, hf⟩ := ob hf
      refine g_getFN dX5_setAboveFloor_42 ev16 t_82 hin5 hc5 (by decide) rfl ?_
      obtain ⟨_, h19, hf⟩ := ob hf
      obtain ⟨σ17, v18, eσ17, hf⟩ := cb_el hf
      refine g_callVN_v dX5_setAboveFloor_45 (wX3_setTo _ eσ17) (okX3_setTo _ (by decide) (by decide)) (ckK_el h19) hc7 t_863 t_865 s_X3_setTo rfl (Nat.le_trans (cat_le _) (Nat.le_of_ble_eq_true rfl)) rfl ?_
      refine g_aload_n (j := 0) dX5_setAboveFloor_48 rfl rfl ?_
      obtain ⟨v20, ev20, hf⟩ := ob hf
      refine g_getF dX5_setAboveFloor_49 ev20 t_169 hin9 hc9 (by decide) rfl ?_
      refine g_aload_n (j := 0) dX5_setAboveFloor_52 rfl rfl ?_
      obtain ⟨v21, ev21, hf⟩ := ob hf
      refine g_getF dX5_setAboveFloor_53 ev21 t_168 hin9 hc9 (by decide) rfl ?_
      obtain ⟨_, h24, hf⟩ := ob hf
      obtain ⟨σ22, v23, eσ22, hf⟩ := cb_el hf
      refine g_callVN_v dX5_setAboveFloor_56 (wX3_minus _ eσ22) (okX3_minus _ (by decide) (by decide)) (ckK_el h24) hc7 t_912 t_914 s_X3_minus rfl (Nat.le_trans (cat_le _) (Nat.le_of_ble_eq_true rfl)) rfl ?_
      refine g_aload_n (j := 0) dX5_setAboveFloor_59 rfl rfl ?_
      obtain ⟨v25, ev25, hf⟩ := ob hf
      refine g_getF dX5_setAboveFloor_60 ev25 t_168 hin9 hc9 (by decide) rfl ?_
      refine g_aload_n (j := 0) dX5_setAboveFloor_63 rfl rfl ?_
      obtain ⟨v26, ev26, hf⟩ := ob hf
      refine g_getF dX5_setAboveFloor_64 ev26 t_169 hin9 hc9 (by decide) rfl ?_
      obtain ⟨_, h29, hf⟩ := ob hf
      obtain ⟨σ27, v28, eσ27, hf⟩ := cb_el hf
      refine g_callVN_v dX5_setAboveFloor_67 (wX3_setTo _ eσ27) (okX3_setTo _ (by decide) (by decide)) (ckK_el h29) hc7 t_863 t_865 s_X3_setTo rfl (Nat.le_trans (cat_le _) (Nat.le_of_ble_eq_true rfl)) rfl ?_
      exact g_vret dX5_setAboveFloor_70 rfl hX2 hX1 hf

theorem okX5_setAboveFloor (M : Mt) (h1 : 4 + 1 ≤ M.2.2.2.2.1) (h2 : 8 + (2 + 11) + 195 ≤ M.2.2.2.2.2.1) : CallOk M MtX5_setAboveFloor yX5_setAboveFloor 1 := ⟨t_1034, h1, h2, ⟨by decide, by decide⟩, by decide +kernel, t_9⟩
abbrev MtX5_continuedForm : Mt := (cX5_continuedForm, 7, "ExactlySaid$Reckoner", (Option.some Jvm.ClassFile.FieldType.int), 5, 220, false)
set_option maxRecDepth 100000 in
set_option maxHeartbeats 4000000 in
theorem bX5_continuedForm_96 {X : Xt} {σf : St} {r : Int32} (hX1 : X.2.2.1 = σf) (hX2 : X.2.2.2 = .inl (some (.int r))) {k41 : St → Nat → Int32 → Nat → Nat → Int32 → Option (St × Int32)} (hk41 : ∀ (σ : St) (x0 : Nat) (x2 : Int32) (x3 : Nat) (x4 : Nat) (x5 : Int32), k41 σ x0 x2 x3 x4 x5 = some (σf, r) → G MtX5_continuedForm X σ 41 [(0, rv x0), (2, .int x2), (3, rv x3), (4, rv x4), (5, .int x5)] []) {σ : St} {x0 : Nat} {x2 : Int32} {x3 : Nat} {x4 : Nat} {x5 : Int32} (hf : fX5_continuedForm_96 k41 σ x0 x2 x3 x4 x5 = some (σf, r)) : G MtX5_continuedForm X σ 96 [(0, rv x0), (2, .int x2), (3, rv x3), (4, rv x4), (5, .int x5)] [] := by
  unfold fX5_continuedForm_96 at hf
  obtain ⟨v1, ev1, hf⟩ := nm_el hf
  refine g_iinc (L' := [(5, .int v1), (0, rv x0), (2, .int x2), (3, rv x3), (4, rv x4)]) (j := 4) (v := v1) dX5_continuedForm_96 rfl (by rw [ev1]; rfl) (Nat.le_of_ble_eq_true rfl) (by simp [rv_cat]) ?_
  refine g_aload_n (j := 3) dX5_continuedForm_99 rfl rfl ?_
  refine g_astore (i := 6) (L' := [(6, rv x3), (5, .int v1), (0, rv x0), (2, .int x2), (3, rv x3), (4, rv x4)]) dX5_continuedForm_100 (Nat.le_of_ble_eq_true rfl) rfl ?_
  refine g_aload (j := 5) dX5_continuedForm_102 rfl ?_
  refine g_astore_n (i := 3) (L' := [(3, rv x4), (6, rv x3), (5, .int v1), (0, rv x0), (2, .int x2), (4, rv x4)]) dX5_continuedForm_104 rfl (Nat.le_of_ble_eq_true rfl) rfl ?_
  refine g_aload (j := 1) dX5_continuedForm_105 rfl ?_
  refine g_astore (i := 4) (L' := [(4, rv x3), (3, rv x4), (6, rv x3), (5, .int v1), (0, rv x0), (2, .int x2)]) dX5_continuedForm_107 (Nat.le_of_ble_eq_true rfl) (by simp [rv_cat]) ?_
  refine g_goto (tgt := 41) dX5_continuedForm_109 (by decide) ?_
  refine g_sub (L' := [(0, rv x0), (2, .int x2), (3, rv x4), (4, rv x3), (5, .int v1)]) [4, 5, 1, 0, 3] rfl ?_
  exact hk41 _ _ _ _ _ _ hf

set_option maxRecDepth 100000 in
set_option maxHeartbeats 4000000 in
theorem bX5_continuedForm_41 {X : Xt} {σf : St} {r : Int32} (hX1 : X.2.2.1 = σf) (hX2 : X.2.2.2 = .inl (some (.int r))) : ∀ (n : Nat) (σ : St) (x0 : Nat) (x2 : Int32) (x3 : Nat) (x4 : Nat) (x5 : Int32), fX5_continuedForm_41 n σ x0 x2 x3 x4 x5 = some (σf, r) → G MtX5_continuedForm X σ 41 [(0, rv x0), (2, .int x2), (3, rv x3), (4, rv x4), (5, .int x5)] [] := by
  intro n
  induction n with
  | zero => intro σ x0 x2 x3 x4 x5 hf; cases hf
  | succ n ih =>
    intro σ x0 x2 x3 x4 x5 hf
    rw [fX5_continuedForm_41] at hf
    refine g_iload (j := 4) dX5_continuedForm_41 rfl ?_
    refine g_ldc (v := 1000000) dX5_continuedForm_43 t_1035 ?_
    refine g_icmp_ge (tgt := 112) dX5_continuedForm_45 (by decide) (fun c1 => ?_) (fun c1 => ?_)
    · rw [if_pos c1] at hf
      refine g_iload (j := 4) dX5_continuedForm_112 rfl ?_
      exact g_iret dX5_continuedForm_114 rfl rfl hX2 hX1 hf
    · rw [if_neg c1] at hf
      refine g_aload (j := 3) dX5_continuedForm_48 rfl ?_
      obtain ⟨_, h4, hf⟩ := ob hf
      obtain ⟨σ2, v3, eσ2, hf⟩ := cb_el hf
      refine g_callVN_i dX5_continuedForm_50 (wX3_isZero _ eσ2) (okX3_isZero _ (by decide) (by decide)) (ckK_el h4) hc7 t_1022 t_1024 s_X3_isZero rfl (Nat.le_trans (cat_le _) (Nat.le_of_ble_eq_true rfl)) rfl ?_
      refine g_if_ne (tgt := 112) dX5_continuedForm_53 (by decide) (fun c5 => ?_) (fun c5 => ?_)
      · rw [if_neg c5] at hf
        refine g_iload (j := 4) dX5_continuedForm_112 rfl ?_
        exact g_iret dX5_continuedForm_114 rfl rfl hX2 hX1 hf
      · rw [if_pos c5] at hf
        refine g_aload_n (j := 0) dX5_continuedForm_56 rfl rfl ?_
        refine g_aload_n (j := 2) dX5_continuedForm_57 rfl rfl ?_
        refine g_aload (j := 3) dX5_continuedForm_58 rfl ?_
        refine g_aload_n (j := 0) dX5_continuedForm_60 rfl rfl ?_
        obtain ⟨v6, ev6, hf⟩ := ob hf
        refine g_getF dX5_continuedForm_61 ev6 t_166 hin9 hc9 (by decide) rfl ?_
        refine g_aload_n (j := 2) dX5_continuedForm_64 rfl rfl ?_
        obtain ⟨_, h9, hf⟩ := ob hf
        obtain ⟨σ7, v8, eσ7, hf⟩ := cb_el hf
        refine g_callV_v dX5_continuedForm_65 (wX5_divide _ eσ7) (okX5_divide _ (by decide) (by decide)) (ckK_el h9) hc9 t_929 t_931 s_X5_divide rfl (Nat.le_trans (cat_le _) (Nat.le_of_ble_eq_true rfl)) rfl ?_
        refine g_iload (j := 4) dX5_continuedForm_68 rfl ?_
        refine g_iload_n (j := 1) dX5_continuedForm_70 rfl rfl ?_
        refine g_icmp_ne (tgt := 96) dX5_continuedForm_71 (by decide) (fun c10 => ?_) (fun c10 => ?_)
        · rw [if_neg c10] at hf
          exact bX5_continuedForm_96 hX1 hX2 (fun σ x0 x2 x3 x4 x5 hf => ih σ x0 x2 x3 x4 x5 hf) hf
        · rw [if_pos c10] at hf
          refine g_aload_n (j := 0) dX5_continuedForm_74 rfl rfl ?_
          obtain ⟨v11, ev11, hf⟩ := ob hf
          refine g_getF dX5_continuedForm_75 ev11 t_175 hin9 hc9 (by decide) rfl ?_
          obtain ⟨v12, ev12, hf⟩ := ob hf
          refine g_getFN dX5_continuedForm_78 ev12 t_77 hin5 hc5 (by decide) rfl ?_
          refine g_aload_n (j := 0) dX5_continuedForm_81 rfl rfl ?_
          obtain ⟨v13, ev13, hf⟩ := ob hf
          refine g_getF dX5_continuedForm_82 ev13 t_166 hin9 hc9 (by decide) rfl ?_
          obtain ⟨_, h16, hf⟩ := ob hf
          obtain ⟨σ14, v15, eσ14, hf⟩ := cb_el hf
          refine g_callVN_v dX5_continuedForm_85 (wX3_setTo _ eσ14) (okX3_setTo _ (by decide) (by decide)) (ckK_el h16) hc7 t_863 t_865 s_X3_setTo rfl (Nat.le_trans (cat_le _) (Nat.le_of_ble_eq_true rfl)) rfl ?_
          refine g_aload_n (j := 0) dX5_continuedForm_88 rfl rfl ?_
          obtain ⟨v17, ev17, hf⟩ := ob hf
          refine g_getF dX5_continuedForm_89 ev17 t_175 hin9 hc9 (by decide) rfl ?_
          refine g_iconst (v := 1) dX5_continuedForm_92 (by decide) ?_
          obtain ⟨σ18, eσ18, hf⟩ := ob hf
          refine g_putI dX5_continuedForm_93 eσ18 (Or.inr ⟨_, t_73⟩) hin5 hc5 (by decide) hty5 hnm5 (Or.inl rfl) rfl rfl rfl ?_
          exact bX5_continuedForm_96 hX1 hX2 (fun σ x0 x2 x3 x4 x5 hf => ih σ x0 x2 x3 x4 x5 hf) hf

set_option maxRecDepth 100000 in
set_option maxHeartbeats 4000000 in
theorem wX5_continuedForm (l : Launch) {σ σf : St} {x0 : Nat} {x1 : Nat} {x2 : Int32} {r : Int32} (hf : fX5_continuedForm σ x0 x1 x2 = some (σf, r)) : Con MtX5_continuedForm yX5_continuedForm l σ [rv x0, rv x1, .int x2] σf (some (.int r)) := by
  refine Con.of (by decide +kernel) rfl (fun h => absurd (show false = true from h) (by decide)) (by simp only [sl_n, sl_r, sl_i, sl_l]; exact Nat.le_of_ble_eq_true rfl) ?_
  rw [show lv_args 0 [rv x0, rv x1, .int x2] = [(0, rv x0), (1, rv x1), (2, .int x2)] by simp only [la_n, la_r, la_i, la_l] <;> rfl]
  have hX1 : ((l, σ, σf, .inl (some (.int r))) : Xt).2.2.1 = σf := rfl
  have hX2 : ((l, σ, σf, .inl (some (.int r))) : Xt).2.2.2 = .inl (some (.int r)) := rfl
  unfold fX5_continuedForm at hf
  refine g_aload_n (j := 0) dX5_continuedForm_0 rfl rfl ?_
  refine g_aload_n (j := 1) dX5_continuedForm_1 rfl rfl ?_
  refine g_bipush (v := 12) dX5_continuedForm_2 (by decide) ?_
  refine g_aload_n (j := 0) dX5_continuedForm_4 rfl rfl ?_
  obtain ⟨v1, ev1, hf⟩ := ob hf
  refine g_getF dX5_continuedForm_5 ev1 t_175 hin9 hc9 (by decide) rfl ?_
  obtain ⟨_, h4, hf⟩ := ob hf
  obtain ⟨σ2, v3, eσ2, hf⟩ := cb_el hf
  refine g_callV_v dX5_continuedForm_8 (wX5_round _ eσ2) (okX5_round _ (by decide) (by decide)) (ckK_el h4) hc9 t_1018 t_1020 s_X5_round rfl (Nat.le_trans (cat_le _) (Nat.le_of_ble_eq_true rfl)) rfl ?_
  refine g_aload_n (j := 0) dX5_continuedForm_11 rfl rfl ?_
  refine g_aload_n (j := 1) dX5_continuedForm_12 rfl rfl ?_
  obtain ⟨_, h7, hf⟩ := ob hf
  obtain ⟨σ5, v6, eσ5, hf⟩ := cb_el hf
  refine g_callV_v dX5_continuedForm_13 (wX5_setAboveFloor _ eσ5) (okX5_setAboveFloor _ (by decide) (by decide)) (ckK_el h7) hc9 t_1031 t_1033 s_X5_setAboveFloor rfl (Nat.le_trans (cat_le _) (Nat.le_of_ble_eq_true rfl)) rfl ?_
  refine g_aload_n (j := 0) dX5_continuedForm_16 rfl rfl ?_
  obtain ⟨v8, ev8, hf⟩ := ob hf
  refine g_getF dX5_continuedForm_17 ev8 t_169 hin9 hc9 (by decide) rfl ?_
  refine g_aload_n (j := 1) dX5_continuedForm_20 rfl rfl ?_
  obtain ⟨v9, ev9, hf⟩ := ob hf
  refine g_getFN dX5_continuedForm_21 ev9 t_82 hin5 hc5 (by decide) rfl ?_
  obtain ⟨_, h12, hf⟩ := ob hf
  obtain ⟨σ10, v11, eσ10, hf⟩ := cb_el hf
  refine g_callVN_v dX5_continuedForm_24 (wX3_setTo _ eσ10) (okX3_setTo _ (by decide) (by decide)) (ckK_el h12) hc7 t_863 t_865 s_X3_setTo rfl (Nat.le_trans (cat_le _) (Nat.le_of_ble_eq_true rfl)) rfl ?_
  refine g_aload_n (j := 0) dX5_continuedForm_27 rfl rfl ?_
  obtain ⟨v13, ev13, hf⟩ := ob hf
  refine g_getF dX5_continuedForm_28 ev13 t_169 hin9 hc9 (by decide) rfl ?_
  refine g_astore_n (i := 3) (L' := [(3, rv v13), (0, rv x0), (1, rv x1), (2, .int x2)]) dX5_continuedForm_31 rfl (Nat.le_of_ble_eq_true rfl) rfl ?_
  refine g_aload_n (j := 1) dX5_continuedForm_32 rfl rfl ?_
  obtain ⟨v14, ev14, hf⟩ := ob hf
  refine g_getF dX5_continuedForm_33 ev14 t_168 hin9 hc9 (by decide) rfl ?_
  refine g_astore (i := 4) (L' := [(4, rv v14), (3, rv v13), (0, rv x0), (1, rv x1), (2, .int x2)]) dX5_continuedForm_36 (Nat.le_of_ble_eq_true rfl) (by simp [rv_cat]) ?_
  refine g_iconst (v := 1) dX5_continuedForm_38 (by decide) ?_
  refine g_istore (i := 5) (L' := [(5, .int 1), (4, rv v14), (3, rv v13), (0, rv x0), (1, rv x1), (2, .int x2)]) dX5_continuedForm_39 (Nat.le_of_ble_eq_true rfl) (by simp [rv_cat]) ?_
  refine g_sub (L' := [(0, rv x0), (2, .int x2), (3, rv v13), (4, rv v14), (5, .int 1)]) [3, 5, 2, 1, 0] rfl ?_
  exact bX5_continuedForm_41 hX1 hX2 FU _ _ _ _ _ _ hf

theorem okX5_continuedForm (M : Mt) (h1 : 5 + 1 ≤ M.2.2.2.2.1) (h2 : 8 + (7 + 11) + 220 ≤ M.2.2.2.2.2.1) : CallOk M MtX5_continuedForm yX5_continuedForm 2 := ⟨t_1017, h1, h2, ⟨by decide, by decide⟩, by decide +kernel, t_9⟩
abbrev MtX11_continued : Mt := (cX11_continued, 1, "ExactlySaid", (Option.some Jvm.ClassFile.FieldType.int), 6, 246, false)
set_option maxRecDepth 100000 in
set_option maxHeartbeats 4000000 in
theorem wX11_continued (l : Launch) {σ σf : St} {x0 : Nat} {r : Int32} (hf : fX11_continued σ x0 = some (σf, r)) : Con MtX11_continued yX11_continued l σ [rv x0] σf (some (.int r)) := by
  refine Con.of (by decide +kernel) rfl (fun h => absurd (show false = true from h) (by decide)) (by simp only [sl_n, sl_r, sl_i, sl_l]; exact Nat.le_of_ble_eq_true rfl) ?_
  rw [show lv_args 0 [rv x0] = [(0, rv x0)] by simp only [la_n, la_r, la_i, la_l] <;> rfl]
  have hX1 : ((l, σ, σf, .inl (some (.int r))) : Xt).2.2.1 = σf := rfl
  have hX2 : ((l, σ, σf, .inl (some (.int r))) : Xt).2.2.2 = .inl (some (.int r)) := rfl
  unfold fX11_continued at hf
  refine g_aload_n (j := 0) dX11_continued_0 rfl rfl ?_
  obtain ⟨v1, ev1, hf⟩ := ob hf
  refine g_getF dX11_continued_1 ev1 t_391 hin15 hc15 (by decide) rfl ?_
  refine g_aload_n (j := 0) dX11_continued_4 rfl rfl ?_
  obtain ⟨v2, ev2, hf⟩ := ob hf
  refine g_getF dX11_continued_5 ev2 t_383 hin15 hc15 (by decide) rfl ?_
  refine g_iconst (v := (-1)) dX11_continued_8 (by decide) ?_
  obtain ⟨_, h5, hf⟩ := ob hf
  obtain ⟨σ3, v4, eσ3, hf⟩ := cb_el hf
  refine g_callVN_i dX11_continued_9 (wX5_continuedForm _ eσ3) (okX5_continuedForm _ (by decide) (by decide)) (ckK_el h5) hc9 t_1014 t_1016 s_X5_continuedForm rfl (Nat.le_trans (cat_le _) (Nat.le_of_ble_eq_true rfl)) rfl ?_
  exact g_iret dX11_continued_12 rfl rfl hX2 hX1 hf

theorem okX11_continued (M : Mt) (h1 : 6 + 1 ≤ M.2.2.2.2.1) (h2 : 8 + (1 + 11) + 246 ≤ M.2.2.2.2.2.1) : CallOk M MtX11_continued yX11_continued 0 := ⟨t_1013, h1, h2, ⟨by decide, by decide⟩, by decide +kernel, t_1⟩
