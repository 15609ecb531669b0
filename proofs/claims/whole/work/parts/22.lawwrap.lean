def fL_append (σ : St) (x0 : Nat) (x1 : Int32) (x2 : Int32) (x3 : Int32) (x4 : Int32) (x5 : Int32) (x6 : Nat) : Option (St × Int32) := Option.bind (ckK σ 16 x0) fun _ => cb (fX11_append σ x0 x1 x2 x3 x4 x5) fun σ1 q => match q with
  | .inl E => (if E = "java/lang/IllegalStateException" then some (σ1, 1) else none)
  | .inr v => Option.bind (stJ σ1 x6 0 (Int32.toInt64 v)) fun σ2 => some (σ2, 0)
def fL_run (σ : St) (x0 : Nat) (x1 : Nat) : Option (St × Int32) := Option.bind (ckK σ 16 x0) fun _ => cb (fX11_run σ x0) fun σ1 q => match q with
  | .inl E => (if E = "java/lang/IllegalArgumentException" then some (σ1, 1) else (if E = "java/lang/ArithmeticException" then some (σ1, 2) else none))
  | .inr v => Option.bind (stJ σ1 x1 0 (Int32.toInt64 v)) fun σ2 => some (σ2, 0)
def fL_refused (σ : St) (x0 : Nat) (x1 : Int32) (x2 : Nat) : Option (St × Int32) := Option.bind (ckK σ 16 x0) fun _ => cb (fX11_refused σ x0 x1) fun σ1 q => match q with
  | .inl E => (if E = "java/lang/IllegalArgumentException" then some (σ1, 1) else none)
  | .inr v => Option.bind (stJ σ1 x2 0 (Int32.toInt64 v)) fun σ2 => some (σ2, 0)
def fL_ringAt (σ : St) (x0 : Nat) (x1 : Int32) (x2 : Nat) : Option (St × Int32) := Option.bind (ckK σ 16 x0) fun _ => cb (fX11_ringAt σ x0 x1) fun σ1 q => match q with
  | .inl E => (if E = "java/lang/IndexOutOfBoundsException" then some (σ1, 1) else none)
  | .inr v => Option.bind (stJ σ1 x2 0 (Int32.toInt64 v)) fun σ2 => some (σ2, 0)
def fL_digit (σ : St) (x0 : Nat) (x1 : Int32) (x2 : Int32) (x3 : Nat) : Option (St × Int32) := Option.bind (ckK σ 16 x0) fun _ => cb (fX11_digit σ x0 x1 x2) fun σ1 q => match q with
  | .inl E => (if E = "java/lang/IndexOutOfBoundsException" then some (σ1, 1) else none)
  | .inr v => Option.bind (stJ σ1 x3 0 (Int32.toInt64 v)) fun σ2 => some (σ2, 0)
def fL_writtenAt (σ : St) (x0 : Nat) (x1 : Int32) (x2 : Nat) : Option (St × Int32) := Option.bind (ckK σ 16 x0) fun _ => cb (fX11_writtenAt σ x0 x1) fun σ1 q => match q with
  | .inl E => (if E = "java/lang/IndexOutOfBoundsException" then some (σ1, 1) else none)
  | .inr v => Option.bind (stJ σ1 x2 0 (Int32.toInt64 v)) fun σ2 => some (σ2, 0)
def fL_keep (σ : St) (x0 : Nat) (x1 : Int32) (x2 : Nat) : Option (St × Int32) := Option.bind (ckK σ 16 x0) fun _ => cb (fX11_keep σ x0 x1) fun σ1 q => match q with
  | .inl E => (if E = "java/lang/IllegalArgumentException" then some (σ1, 1) else none)
  | .inr v => Option.bind (stJ σ1 x2 0 (Int32.toInt64 v)) fun σ2 => some (σ2, 0)
def fL_take (σ : St) (x0 : Nat) (x1 : Int32) (x2 : Nat) : Option (St × Int32) := Option.bind (ckK σ 16 x0) fun _ => cb (fX11_take σ x0 x1) fun σ1 q => match q with
  | .inl E => (if E = "java/lang/IllegalArgumentException" then some (σ1, 1) else none)
  | .inr v => Option.bind (stJ σ1 x2 0 (Int32.toInt64 v)) fun σ2 => some (σ2, 0)
def fL_compare (σ : St) (x0 : Nat) (x1 : Int32) (x2 : Int32) (x3 : Nat) : Option (St × Int32) := Option.bind (ckK σ 16 x0) fun _ => cb (fX11_compare σ x0 x1 x2) fun σ1 q => match q with
  | .inl E => (if E = "java/lang/IllegalArgumentException" then some (σ1, 1) else none)
  | .inr v => Option.bind (stJ σ1 x3 0 (Int32.toInt64 v)) fun σ2 => some (σ2, 0)
def fL_nameAt (σ : St) (x0 : Nat) (x1 : Int32) (x2 : Nat) : Option (St × Int32) := Option.bind (ckK σ 16 x0) fun _ => cb (fX11_nameAt σ x0 x1) fun σ1 q => match q with
  | .inl E => (if E = "java/lang/IndexOutOfBoundsException" then some (σ1, 1) else none)
  | .inr v => Option.bind (stJ σ1 x2 0 (Int32.toInt64 v)) fun σ2 => some (σ2, 0)
def fL_takeName (σ : St) (x0 : Nat) (x1 : Int32) (x2 : Nat) : Option (St × Int32) := Option.bind (ckK σ 16 x0) fun _ => cb (fX11_takeName σ x0 x1) fun σ1 q => match q with
  | .inl E => (if E = "java/util/NoSuchElementException" then some (σ1, 1) else none)
  | .inr v => Option.bind (stJ σ1 x2 0 (Int32.toInt64 v)) fun σ2 => some (σ2, 0)
def fL_parameters (σ : St) (x0 : Nat) (x1 : Int32) (x2 : Nat) : Option (St × Int32) := Option.bind (ckK σ 16 x0) fun _ => cb (fX11_parameters σ x0 x1) fun σ1 q => match q with
  | .inl E => (if E = "java/util/NoSuchElementException" then some (σ1, 1) else none)
  | .inr v => Option.bind (stJ σ1 x2 0 (Int32.toInt64 v)) fun σ2 => some (σ2, 0)
def fL_drop (σ : St) (x0 : Nat) (x1 : Int32) (x2 : Int32) (x3 : Nat) : Option (St × Int32) := Option.bind (ckK σ 16 x0) fun _ => cb (fX11_drop σ x0 x1 x2) fun σ1 q => match q with
  | .inl E => (if E = "java/util/NoSuchElementException" then some (σ1, 1) else (if E = "java/lang/IllegalStateException" then some (σ1, 2) else none))
  | .inr v => Option.bind (stJ σ1 x3 0 (Int32.toInt64 v)) fun σ2 => some (σ2, 0)
def fL_stepAt (σ : St) (x0 : Nat) (x1 : Int32) (x2 : Nat) : Option (St × Int32) := Option.bind (ckK σ 16 x0) fun _ => cb (fX11_stepAt σ x0 x1) fun σ1 q => match q with
  | .inl E => (if E = "java/lang/IndexOutOfBoundsException" then some (σ1, 1) else none)
  | .inr v => Option.bind (stJ σ1 x2 0 (Int32.toInt64 v)) fun σ2 => some (σ2, 0)
def fL_takeStep (σ : St) (x0 : Nat) (x1 : Int32) (x2 : Nat) : Option (St × Int32) := Option.bind (ckK σ 16 x0) fun _ => cb (fX11_takeStep σ x0 x1) fun σ1 q => match q with
  | .inl E => (if E = "java/lang/IndexOutOfBoundsException" then some (σ1, 1) else none)
  | .inr v => Option.bind (stJ σ1 x2 0 (Int32.toInt64 v)) fun σ2 => some (σ2, 0)
def fL_decimal (σ : St) (x0 : Nat) (x1 : Int32) (x2 : Nat) : Option (St × Int32) := Option.bind (ckK σ 16 x0) fun _ => cb (fX11_decimal σ x0 x1) fun σ1 q => match q with
  | .inl E => (if E = "java/lang/IllegalArgumentException" then some (σ1, 1) else none)
  | .inr v => Option.bind (stJ σ1 x2 0 (Int32.toInt64 v)) fun σ2 => some (σ2, 0)
def fL_takeContinued (σ : St) (x0 : Nat) (x1 : Int32) (x2 : Nat) : Option (St × Int32) := Option.bind (ckK σ 16 x0) fun _ => cb (fX11_takeContinued σ x0 x1) fun σ1 q => match q with
  | .inl E => (if E = "java/lang/IndexOutOfBoundsException" then some (σ1, 1) else none)
  | .inr v => Option.bind (stJ σ1 x2 0 (Int32.toInt64 v)) fun σ2 => some (σ2, 0)
def fL_takeBest (σ : St) (x0 : Nat) (x1 : Int32) (x2 : Nat) : Option (St × Int32) := Option.bind (ckK σ 16 x0) fun _ => cb (fX11_takeBest σ x0 x1) fun σ1 q => match q with
  | .inl E => (if E = "java/lang/IllegalArgumentException" then some (σ1, 1) else none)
  | .inr v => Option.bind (stJ σ1 x2 0 (Int32.toInt64 v)) fun σ2 => some (σ2, 0)
def fL_takeUnit (σ : St) (x0 : Nat) (x1 : Int32) (x2 : Nat) : Option (St × Int32) := Option.bind (ckK σ 16 x0) fun _ => cb (fX11_takeUnit σ x0 x1) fun σ1 q => match q with
  | .inl E => (if E = "java/lang/IndexOutOfBoundsException" then some (σ1, 1) else none)
  | .inr v => Option.bind (stJ σ1 x2 0 (Int32.toInt64 v)) fun σ2 => some (σ2, 0)
def fL_put (σ : St) (x0 : Nat) (x1 : Int32) (x2 : Nat) : Option (St × Int32) := Option.bind (ckK σ 16 x0) fun _ => cb (fX11_put σ x0 x1) fun σ1 q => match q with
  | .inl E => (if E = "java/lang/IllegalArgumentException" then some (σ1, 1) else (if E = "java/lang/IllegalStateException" then some (σ1, 2) else none))
  | .inr v => Option.bind (stJ σ1 x2 0 (Int32.toInt64 v)) fun σ2 => some (σ2, 0)
def fL_out (σ : St) (x0 : Nat) (x1 : Int32) (x2 : Nat) : Option (St × Int32) := Option.bind (ckK σ 16 x0) fun _ => cb (fX11_out σ x0 x1) fun σ1 q => match q with
  | .inl E => (if E = "java/lang/IllegalArgumentException" then some (σ1, 1) else (if E = "java/util/NoSuchElementException" then some (σ1, 2) else none))
  | .inr v => Option.bind (stJ σ1 x2 0 (Int32.toInt64 v)) fun σ2 => some (σ2, 0)
def fL_empty (σ : St) (x0 : Nat) (x1 : Int32) (x2 : Nat) : Option (St × Int32) := Option.bind (ckK σ 16 x0) fun _ => cb (fX11_empty σ x0 x1) fun σ1 q => match q with
  | .inl E => (if E = "java/lang/IllegalArgumentException" then some (σ1, 1) else none)
  | .inr v => Option.bind (stJ σ1 x2 0 (Int32.toInt64 v)) fun σ2 => some (σ2, 0)
def fL_count (σ : St) (x0 : Nat) (x1 : Int32) (x2 : Int32) (x3 : Nat) : Option (St × Int32) := Option.bind (ckK σ 16 x0) fun _ => cb (fX11_count σ x0 x1 x2) fun σ1 q => match q with
  | .inl E => (if E = "java/lang/IllegalArgumentException" then some (σ1, 1) else none)
  | .inr v => Option.bind (stJ σ1 x3 0 (Int32.toInt64 v)) fun σ2 => some (σ2, 0)
def fL_takeLeast (σ : St) (x0 : Nat) (x1 : Int32) (x2 : Int32) (x3 : Nat) : Option (St × Int32) := Option.bind (ckK σ 16 x0) fun _ => cb (fX11_takeLeast σ x0 x1 x2) fun σ1 q => match q with
  | .inl E => (if E = "java/lang/IllegalArgumentException" then some (σ1, 1) else (if E = "java/lang/IndexOutOfBoundsException" then some (σ1, 2) else none))
  | .inr v => Option.bind (stJ σ1 x3 0 (Int32.toInt64 v)) fun σ2 => some (σ2, 0)
def fL_takeNext (σ : St) (x0 : Nat) (x1 : Int32) (x2 : Nat) : Option (St × Int32) := Option.bind (ckK σ 16 x0) fun _ => cb (fX11_takeNext σ x0 x1) fun σ1 q => match q with
  | .inl E => (if E = "java/lang/IllegalArgumentException" then some (σ1, 1) else (if E = "java/util/NoSuchElementException" then some (σ1, 2) else none))
  | .inr v => Option.bind (stJ σ1 x2 0 (Int32.toInt64 v)) fun σ2 => some (σ2, 0)
def fL_takeAll (σ : St) (x0 : Nat) (x1 : Int32) (x2 : Int32) (x3 : Nat) : Option (St × Int32) := Option.bind (ckK σ 16 x0) fun _ => cb (fX11_takeAll σ x0 x1 x2) fun σ1 q => match q with
  | .inl E => (if E = "java/lang/IllegalArgumentException" then some (σ1, 1) else (if E = "java/util/NoSuchElementException" then some (σ1, 2) else (if E = "java/lang/ArithmeticException" then some (σ1, 3) else none)))
  | .inr v => Option.bind (stJ σ1 x3 0 (Int32.toInt64 v)) fun σ2 => some (σ2, 0)
def hhL_append : List (Nat × Nat × Nat × Nat) := [(0, 16, 19, 13)]
abbrev MtL_append : Mt := (cL_append, 8, "ExactlySaidLaw", some .int, 9, 185, false)
set_option maxRecDepth 100000 in
set_option maxHeartbeats 4000000 in
theorem wL_append (l : Launch) (hst : l.stackTraces = false) {σ σf : St} {x0 : Nat} {x1 : Int32} {x2 : Int32} {x3 : Int32} {x4 : Int32} {x5 : Int32} {x6 : Nat} {r : Int32} (hf : fL_append σ x0 x1 x2 x3 x4 x5 x6 = some (σf, r)) : ConW MtL_append yL_append hhL_append l σ [rv x0, .int x1, .int x2, .int x3, .int x4, .int x5, rv x6] σf (some (.int r)) := by
  refine ConW.of hst (by decide +kernel) rfl (fun h => absurd (show false = true from h) (by decide)) (by simp only [sl_n, sl_r, sl_i, sl_l]; exact Nat.le_of_ble_eq_true rfl) ?_
  rw [show lv_args 0 [rv x0, .int x1, .int x2, .int x3, .int x4, .int x5, rv x6] = [(0, rv x0), (1, .int x1), (2, .int x2), (3, .int x3), (4, .int x4), (5, .int x5), (6, rv x6)] by simp only [la_n, la_r, la_i, la_l] <;> rfl]
  have hX0 : ((l, σ, σf, .inr (.inr (KW σ σf (some (.int r)), tableOf hhL_append))) : Xt).1 = l := rfl
  have hX1 : ((l, σ, σf, .inr (.inr (KW σ σf (some (.int r)), tableOf hhL_append))) : Xt).2.2.1 = σf := rfl
  have hX2 : ((l, σ, σf, .inr (.inr (KW σ σf (some (.int r)), tableOf hhL_append))) : Xt).2.2.2 = .inr (.inr (KW ((l, σ, σf, .inr (.inr (KW σ σf (some (.int r)), tableOf hhL_append))) : Xt).2.1 σf (some (.int r)), tableOf hhL_append)) := rfl
  generalize ((l, σ, σf, .inr (.inr (KW σ σf (some (.int r)), tableOf hhL_append))) : Xt) = X at hX0 hX1 hX2 ⊢
  subst hX0
  unfold fL_append at hf
  obtain ⟨_, h0, hf⟩ := ob hf
  obtain ⟨σ1, q, e1, hf⟩ := cb_el hf
  refine g_aload (j := 6) dL_append_0 rfl ?_
  refine g_iconst (v := 0) dL_append_2 (by decide) ?_
  refine g_aload_n (j := 0) dL_append_3 rfl rfl ?_
  refine g_iload_n (j := 1) dL_append_4 rfl rfl ?_
  refine g_iload_n (j := 2) dL_append_5 rfl rfl ?_
  refine g_iload_n (j := 3) dL_append_6 rfl rfl ?_
  refine g_iload (j := 4) dL_append_7 rfl ?_
  refine g_iload (j := 5) dL_append_9 rfl ?_
  refine g_callT_i hX2 dL_append_11 (wX11_append _ hst e1) (okX11_append _ (by decide) (by decide)) (ckK_el h0) hc15 t_1257 t_1258 t_1259 rfl (Nat.le_trans (cat_le _) (Nat.le_of_ble_eq_true rfl)) rfl (fun v hv => ?_) (fun E hE => ?_)
  · subst hv
    obtain ⟨σ2, e2, hf⟩ := ob hf
    cases hf
    refine g_i2l dL_append_14 rfl ?_
    refine g_jst dL_append_15 e2 ?_
    refine g_goto (tgt := 23) dL_append_16 (by decide) ?_
    refine g_iconst (v := 0) dL_append_23 (by decide) ?_
    exact g_iretW dL_append_24 rfl hX2 hX1 rfl ⟨sz _, rfl, Nat.le_refl _⟩
  · subst hE
    dsimp only at hf
    by_cases h0 : E = "java/lang/IllegalStateException"
    · rw [if_pos h0] at hf
      cases hf
      subst h0
      refine ⟨[], ⟨0, 16, 19, 13⟩, [], "java/lang/IllegalStateException", 7, 2, rfl, (fun z h => by cases h), by decide, by decide, t_1256, t_1266, (Or.inr ⟨dL_append_19, rfl⟩), by decide, fun z hz => ?_⟩
      refine g_iconst (v := 1) dL_append_21 (by decide) ?_
      exact g_iretW dL_append_22 rfl hX2 hX1 rfl ⟨z, rfl, hz⟩
    · rw [if_neg h0] at hf
      cases hf

def hhL_run : List (Nat × Nat × Nat × Nat) := [(0, 8, 11, 19), (0, 8, 14, 21)]
abbrev MtL_run : Mt := (cL_run, 3, "ExactlySaidLaw", some .int, 107, 4469, false)
set_option maxRecDepth 100000 in
set_option maxHeartbeats 4000000 in
theorem wL_run (l : Launch) (hst : l.stackTraces = false) {σ σf : St} {x0 : Nat} {x1 : Nat} {r : Int32} (hf : fL_run σ x0 x1 = some (σf, r)) : ConW MtL_run yL_run hhL_run l σ [rv x0, rv x1] σf (some (.int r)) := by
  refine ConW.of hst (by decide +kernel) rfl (fun h => absurd (show false = true from h) (by decide)) (by simp only [sl_n, sl_r, sl_i, sl_l]; exact Nat.le_of_ble_eq_true rfl) ?_
  rw [show lv_args 0 [rv x0, rv x1] = [(0, rv x0), (1, rv x1)] by simp only [la_n, la_r, la_i, la_l] <;> rfl]
  have hX0 : ((l, σ, σf, .inr (.inr (KW σ σf (some (.int r)), tableOf hhL_run))) : Xt).1 = l := rfl
  have hX1 : ((l, σ, σf, .inr (.inr (KW σ σf (some (.int r)), tableOf hhL_run))) : Xt).2.2.1 = σf := rfl
  have hX2 : ((l, σ, σf, .inr (.inr (KW σ σf (some (.int r)), tableOf hhL_run))) : Xt).2.2.2 = .inr (.inr (KW ((l, σ, σf, .inr (.inr (KW σ σf (some (.int r)), tableOf hhL_run))) : Xt).2.1 σf (some (.int r)), tableOf hhL_run)) := rfl
  generalize ((l, σ, σf, .inr (.inr (KW σ σf (some (.int r)), tableOf hhL_run))) : Xt) = X at hX0 hX1 hX2 ⊢
  subst hX0
  unfold fL_run at hf
  obtain ⟨_, h0, hf⟩ := ob hf
  obtain ⟨σ1, q, e1, hf⟩ := cb_el hf
  refine g_aload_n (j := 1) dL_run_0 rfl rfl ?_
  refine g_iconst (v := 0) dL_run_1 (by decide) ?_
  refine g_aload_n (j := 0) dL_run_2 rfl rfl ?_
  refine g_callT_i hX2 dL_run_3 (wX11_run _ hst e1) (okX11_run _ (by decide) (by decide)) (ckK_el h0) hc15 t_1307 t_1308 t_1309 rfl (Nat.le_trans (cat_le _) (Nat.le_of_ble_eq_true rfl)) rfl (fun v hv => ?_) (fun E hE => ?_)
  · subst hv
    obtain ⟨σ2, e2, hf⟩ := ob hf
    cases hf
    refine g_i2l dL_run_6 rfl ?_
    refine g_jst dL_run_7 e2 ?_
    refine g_goto (tgt := 17) dL_run_8 (by decide) ?_
    refine g_iconst (v := 0) dL_run_17 (by decide) ?_
    exact g_iretW dL_run_18 rfl hX2 hX1 rfl ⟨sz _, rfl, Nat.le_refl _⟩
  · subst hE
    dsimp only at hf
    by_cases h0 : E = "java/lang/IllegalArgumentException"
    · rw [if_pos h0] at hf
      cases hf
      subst h0
      refine ⟨[], ⟨0, 8, 11, 19⟩, [⟨0, 8, 14, 21⟩], "java/lang/IllegalArgumentException", 2, 1, rfl, (fun z h => by cases h), by decide, by decide, t_1292, t_665, (Or.inl ⟨2, dL_run_11, rfl, rfl⟩), by decide, fun z hz => ?_⟩
      refine g_iconst (v := 1) dL_run_12 (by decide) ?_
      exact g_iretW dL_run_13 rfl hX2 hX1 rfl ⟨z, rfl, hz⟩
    · rw [if_neg h0] at hf
      by_cases h1 : E = "java/lang/ArithmeticException"
      · rw [if_pos h1] at hf
        cases hf
        subst h1
        refine ⟨[⟨0, 8, 11, 19⟩], ⟨0, 8, 14, 21⟩, [], "java/lang/ArithmeticException", 2, 1, rfl, (fun z h => by
          rcases List.mem_cons.mp h with rfl | h
          · exact ⟨by decide, "java/lang/IllegalArgumentException", t_1292, by decide +kernel⟩
          cases h), by decide, by decide, t_1293, t_1305, (Or.inl ⟨2, dL_run_14, rfl, rfl⟩), by decide, fun z hz => ?_⟩
        refine g_iconst (v := 2) dL_run_15 (by decide) ?_
        exact g_iretW dL_run_16 rfl hX2 hX1 rfl ⟨z, rfl, hz⟩
      · rw [if_neg h1] at hf
        cases hf

def hhL_refused : List (Nat × Nat × Nat × Nat) := [(0, 9, 12, 19)]
abbrev MtL_refused : Mt := (cL_refused, 4, "ExactlySaidLaw", some .int, 9, 181, false)
set_option maxRecDepth 100000 in
set_option maxHeartbeats 4000000 in
theorem wL_refused (l : Launch) (hst : l.stackTraces = false) {σ σf : St} {x0 : Nat} {x1 : Int32} {x2 : Nat} {r : Int32} (hf : fL_refused σ x0 x1 x2 = some (σf, r)) : ConW MtL_refused yL_refused hhL_refused l σ [rv x0, .int x1, rv x2] σf (some (.int r)) := by
  refine ConW.of hst (by decide +kernel) rfl (fun h => absurd (show false = true from h) (by decide)) (by simp only [sl_n, sl_r, sl_i, sl_l]; exact Nat.le_of_ble_eq_true rfl) ?_
  rw [show lv_args 0 [rv x0, .int x1, rv x2] = [(0, rv x0), (1, .int x1), (2, rv x2)] by simp only [la_n, la_r, la_i, la_l] <;> rfl]
  have hX0 : ((l, σ, σf, .inr (.inr (KW σ σf (some (.int r)), tableOf hhL_refused))) : Xt).1 = l := rfl
  have hX1 : ((l, σ, σf, .inr (.inr (KW σ σf (some (.int r)), tableOf hhL_refused))) : Xt).2.2.1 = σf := rfl
  have hX2 : ((l, σ, σf, .inr (.inr (KW σ σf (some (.int r)), tableOf hhL_refused))) : Xt).2.2.2 = .inr (.inr (KW ((l, σ, σf, .inr (.inr (KW σ σf (some (.int r)), tableOf hhL_refused))) : Xt).2.1 σf (some (.int r)), tableOf hhL_refused)) := rfl
  generalize ((l, σ, σf, .inr (.inr (KW σ σf (some (.int r)), tableOf hhL_refused))) : Xt) = X at hX0 hX1 hX2 ⊢
  subst hX0
  unfold fL_refused at hf
  obtain ⟨_, h0, hf⟩ := ob hf
  obtain ⟨σ1, q, e1, hf⟩ := cb_el hf
  refine g_aload_n (j := 2) dL_refused_0 rfl rfl ?_
  refine g_iconst (v := 0) dL_refused_1 (by decide) ?_
  refine g_aload_n (j := 0) dL_refused_2 rfl rfl ?_
  refine g_iload_n (j := 1) dL_refused_3 rfl rfl ?_
  refine g_callT_i hX2 dL_refused_4 (wX11_refused _ hst e1) (okX11_refused _ (by decide) (by decide)) (ckK_el h0) hc15 t_1621 t_1622 t_1623 rfl (Nat.le_trans (cat_le _) (Nat.le_of_ble_eq_true rfl)) rfl (fun v hv => ?_) (fun E hE => ?_)
  · subst hv
    obtain ⟨σ2, e2, hf⟩ := ob hf
    cases hf
    refine g_i2l dL_refused_7 rfl ?_
    refine g_jst dL_refused_8 e2 ?_
    refine g_goto (tgt := 15) dL_refused_9 (by decide) ?_
    refine g_iconst (v := 0) dL_refused_15 (by decide) ?_
    exact g_iretW dL_refused_16 rfl hX2 hX1 rfl ⟨sz _, rfl, Nat.le_refl _⟩
  · subst hE
    dsimp only at hf
    by_cases h0 : E = "java/lang/IllegalArgumentException"
    · rw [if_pos h0] at hf
      cases hf
      subst h0
      refine ⟨[], ⟨0, 9, 12, 19⟩, [], "java/lang/IllegalArgumentException", 3, 1, rfl, (fun z h => by cases h), by decide, by decide, t_1292, t_665, (Or.inl ⟨3, dL_refused_12, rfl, rfl⟩), by decide, fun z hz => ?_⟩
      refine g_iconst (v := 1) dL_refused_13 (by decide) ?_
      exact g_iretW dL_refused_14 rfl hX2 hX1 rfl ⟨z, rfl, hz⟩
    · rw [if_neg h0] at hf
      cases hf

def hhL_ringAt : List (Nat × Nat × Nat × Nat) := [(0, 9, 12, 30)]
abbrev MtL_ringAt : Mt := (cL_ringAt, 4, "ExactlySaidLaw", some .int, 9, 181, false)
set_option maxRecDepth 100000 in
set_option maxHeartbeats 4000000 in
theorem wL_ringAt (l : Launch) (hst : l.stackTraces = false) {σ σf : St} {x0 : Nat} {x1 : Int32} {x2 : Nat} {r : Int32} (hf : fL_ringAt σ x0 x1 x2 = some (σf, r)) : ConW MtL_ringAt yL_ringAt hhL_ringAt l σ [rv x0, .int x1, rv x2] σf (some (.int r)) := by
  refine ConW.of hst (by decide +kernel) rfl (fun h => absurd (show false = true from h) (by decide)) (by simp only [sl_n, sl_r, sl_i, sl_l]; exact Nat.le_of_ble_eq_true rfl) ?_
  rw [show lv_args 0 [rv x0, .int x1, rv x2] = [(0, rv x0), (1, .int x1), (2, rv x2)] by simp only [la_n, la_r, la_i, la_l] <;> rfl]
  have hX0 : ((l, σ, σf, .inr (.inr (KW σ σf (some (.int r)), tableOf hhL_ringAt))) : Xt).1 = l := rfl
  have hX1 : ((l, σ, σf, .inr (.inr (KW σ σf (some (.int r)), tableOf hhL_ringAt))) : Xt).2.2.1 = σf := rfl
  have hX2 : ((l, σ, σf, .inr (.inr (KW σ σf (some (.int r)), tableOf hhL_ringAt))) : Xt).2.2.2 = .inr (.inr (KW ((l, σ, σf, .inr (.inr (KW σ σf (some (.int r)), tableOf hhL_ringAt))) : Xt).2.1 σf (some (.int r)), tableOf hhL_ringAt)) := rfl
  generalize ((l, σ, σf, .inr (.inr (KW σ σf (some (.int r)), tableOf hhL_ringAt))) : Xt) = X at hX0 hX1 hX2 ⊢
  subst hX0
  unfold fL_ringAt at hf
  obtain ⟨_, h0, hf⟩ := ob hf
  obtain ⟨σ1, q, e1, hf⟩ := cb_el hf
  refine g_aload_n (j := 2) dL_ringAt_0 rfl rfl ?_
  refine g_iconst (v := 0) dL_ringAt_1 (by decide) ?_
  refine g_aload_n (j := 0) dL_ringAt_2 rfl rfl ?_
  refine g_iload_n (j := 1) dL_ringAt_3 rfl rfl ?_
  refine g_callT_i hX2 dL_ringAt_4 (wX11_ringAt _ hst e1) (okX11_ringAt _ (by decide) (by decide)) (ckK_el h0) hc15 t_1631 t_1632 t_1633 rfl (Nat.le_trans (cat_le _) (Nat.le_of_ble_eq_true rfl)) rfl (fun v hv => ?_) (fun E hE => ?_)
  · subst hv
    obtain ⟨σ2, e2, hf⟩ := ob hf
    cases hf
    refine g_i2l dL_ringAt_7 rfl ?_
    refine g_jst dL_ringAt_8 e2 ?_
    refine g_goto (tgt := 15) dL_ringAt_9 (by decide) ?_
    refine g_iconst (v := 0) dL_ringAt_15 (by decide) ?_
    exact g_iretW dL_ringAt_16 rfl hX2 hX1 rfl ⟨sz _, rfl, Nat.le_refl _⟩
  · subst hE
    dsimp only at hf
    by_cases h0 : E = "java/lang/IndexOutOfBoundsException"
    · rw [if_pos h0] at hf
      cases hf
      subst h0
      refine ⟨[], ⟨0, 9, 12, 30⟩, [], "java/lang/IndexOutOfBoundsException", 3, 1, rfl, (fun z h => by cases h), by decide, by decide, t_1628, t_1637, (Or.inl ⟨3, dL_ringAt_12, rfl, rfl⟩), by decide, fun z hz => ?_⟩
      refine g_iconst (v := 1) dL_ringAt_13 (by decide) ?_
      exact g_iretW dL_ringAt_14 rfl hX2 hX1 rfl ⟨z, rfl, hz⟩
    · rw [if_neg h0] at hf
      cases hf

def hhL_digit : List (Nat × Nat × Nat × Nat) := [(0, 10, 13, 30)]
abbrev MtL_digit : Mt := (cL_digit, 5, "ExactlySaidLaw", some .int, 9, 183, false)
set_option maxRecDepth 100000 in
set_option maxHeartbeats 4000000 in
theorem wL_digit (l : Launch) (hst : l.stackTraces = false) {σ σf : St} {x0 : Nat} {x1 : Int32} {x2 : Int32} {x3 : Nat} {r : Int32} (hf : fL_digit σ x0 x1 x2 x3 = some (σf, r)) : ConW MtL_digit yL_digit hhL_digit l σ [rv x0, .int x1, .int x2, rv x3] σf (some (.int r)) := by
  refine ConW.of hst (by decide +kernel) rfl (fun h => absurd (show false = true from h) (by decide)) (by simp only [sl_n, sl_r, sl_i, sl_l]; exact Nat.le_of_ble_eq_true rfl) ?_
  rw [show lv_args 0 [rv x0, .int x1, .int x2, rv x3] = [(0, rv x0), (1, .int x1), (2, .int x2), (3, rv x3)] by simp only [la_n, la_r, la_i, la_l] <;> rfl]
  have hX0 : ((l, σ, σf, .inr (.inr (KW σ σf (some (.int r)), tableOf hhL_digit))) : Xt).1 = l := rfl
  have hX1 : ((l, σ, σf, .inr (.inr (KW σ σf (some (.int r)), tableOf hhL_digit))) : Xt).2.2.1 = σf := rfl
  have hX2 : ((l, σ, σf, .inr (.inr (KW σ σf (some (.int r)), tableOf hhL_digit))) : Xt).2.2.2 = .inr (.inr (KW ((l, σ, σf, .inr (.inr (KW σ σf (some (.int r)), tableOf hhL_digit))) : Xt).2.1 σf (some (.int r)), tableOf hhL_digit)) := rfl
  generalize ((l, σ, σf, .inr (.inr (KW σ σf (some (.int r)), tableOf hhL_digit))) : Xt) = X at hX0 hX1 hX2 ⊢
  subst hX0
  unfold fL_digit at hf
  obtain ⟨_, h0, hf⟩ := ob hf
  obtain ⟨σ1, q, e1, hf⟩ := cb_el hf
  refine g_aload_n (j := 3) dL_digit_0 rfl rfl ?_
  refine g_iconst (v := 0) dL_digit_1 (by decide) ?_
  refine g_aload_n (j := 0) dL_digit_2 rfl rfl ?_
  refine g_iload_n (j := 1) dL_digit_3 rfl rfl ?_
  refine g_iload_n (j := 2) dL_digit_4 rfl rfl ?_
  refine g_callT_i hX2 dL_digit_5 (wX11_digit _ hst e1) (okX11_digit _ (by decide) (by decide)) (ckK_el h0) hc15 t_1653 t_1654 t_1655 rfl (Nat.le_trans (cat_le _) (Nat.le_of_ble_eq_true rfl)) rfl (fun v hv => ?_) (fun E hE => ?_)
  · subst hv
    obtain ⟨σ2, e2, hf⟩ := ob hf
    cases hf
    refine g_i2l dL_digit_8 rfl ?_
    refine g_jst dL_digit_9 e2 ?_
    refine g_goto (tgt := 17) dL_digit_10 (by decide) ?_
    refine g_iconst (v := 0) dL_digit_17 (by decide) ?_
    exact g_iretW dL_digit_18 rfl hX2 hX1 rfl ⟨sz _, rfl, Nat.le_refl _⟩
  · subst hE
    dsimp only at hf
    by_cases h0 : E = "java/lang/IndexOutOfBoundsException"
    · rw [if_pos h0] at hf
      cases hf
      subst h0
      refine ⟨[], ⟨0, 10, 13, 30⟩, [], "java/lang/IndexOutOfBoundsException", 4, 2, rfl, (fun z h => by cases h), by decide, by decide, t_1628, t_1637, (Or.inr ⟨dL_digit_13, rfl⟩), by decide, fun z hz => ?_⟩
      refine g_iconst (v := 1) dL_digit_15 (by decide) ?_
      exact g_iretW dL_digit_16 rfl hX2 hX1 rfl ⟨z, rfl, hz⟩
    · rw [if_neg h0] at hf
      cases hf

def hhL_writtenAt : List (Nat × Nat × Nat × Nat) := [(0, 9, 12, 30)]
abbrev MtL_writtenAt : Mt := (cL_writtenAt, 4, "ExactlySaidLaw", some .int, 9, 217, false)
set_option maxRecDepth 100000 in
set_option maxHeartbeats 4000000 in
theorem wL_writtenAt (l : Launch) (hst : l.stackTraces = false) {σ σf : St} {x0 : Nat} {x1 : Int32} {x2 : Nat} {r : Int32} (hf : fL_writtenAt σ x0 x1 x2 = some (σf, r)) : ConW MtL_writtenAt yL_writtenAt hhL_writtenAt l σ [rv x0, .int x1, rv x2] σf (some (.int r)) := by
  refine ConW.of hst (by decide +kernel) rfl (fun h => absurd (show false = true from h) (by decide)) (by simp only [sl_n, sl_r, sl_i, sl_l]; exact Nat.le_of_ble_eq_true rfl) ?_
  rw [show lv_args 0 [rv x0, .int x1, rv x2] = [(0, rv x0), (1, .int x1), (2, rv x2)] by simp only [la_n, la_r, la_i, la_l] <;> rfl]
  have hX0 : ((l, σ, σf, .inr (.inr (KW σ σf (some (.int r)), tableOf hhL_writtenAt))) : Xt).1 = l := rfl
  have hX1 : ((l, σ, σf, .inr (.inr (KW σ σf (some (.int r)), tableOf hhL_writtenAt))) : Xt).2.2.1 = σf := rfl
  have hX2 : ((l, σ, σf, .inr (.inr (KW σ σf (some (.int r)), tableOf hhL_writtenAt))) : Xt).2.2.2 = .inr (.inr (KW ((l, σ, σf, .inr (.inr (KW σ σf (some (.int r)), tableOf hhL_writtenAt))) : Xt).2.1 σf (some (.int r)), tableOf hhL_writtenAt)) := rfl
  generalize ((l, σ, σf, .inr (.inr (KW σ σf (some (.int r)), tableOf hhL_writtenAt))) : Xt) = X at hX0 hX1 hX2 ⊢
  subst hX0
  unfold fL_writtenAt at hf
  obtain ⟨_, h0, hf⟩ := ob hf
  obtain ⟨σ1, q, e1, hf⟩ := cb_el hf
  refine g_aload_n (j := 2) dL_writtenAt_0 rfl rfl ?_
  refine g_iconst (v := 0) dL_writtenAt_1 (by decide) ?_
  refine g_aload_n (j := 0) dL_writtenAt_2 rfl rfl ?_
  refine g_iload_n (j := 1) dL_writtenAt_3 rfl rfl ?_
  refine g_callT_i hX2 dL_writtenAt_4 (wX11_writtenAt _ hst e1) (okX11_writtenAt _ (by decide) (by decide)) (ckK_el h0) hc15 t_1660 t_1661 t_1662 rfl (Nat.le_trans (cat_le _) (Nat.le_of_ble_eq_true rfl)) rfl (fun v hv => ?_) (fun E hE => ?_)
  · subst hv
    obtain ⟨σ2, e2, hf⟩ := ob hf
    cases hf
    refine g_i2l dL_writtenAt_7 rfl ?_
    refine g_jst dL_writtenAt_8 e2 ?_
    refine g_goto (tgt := 15) dL_writtenAt_9 (by decide) ?_
    refine g_iconst (v := 0) dL_writtenAt_15 (by decide) ?_
    exact g_iretW dL_writtenAt_16 rfl hX2 hX1 rfl ⟨sz _, rfl, Nat.le_refl _⟩
  · subst hE
    dsimp only at hf
    by_cases h0 : E = "java/lang/IndexOutOfBoundsException"
    · rw [if_pos h0] at hf
      cases hf
      subst h0
      refine ⟨[], ⟨0, 9, 12, 30⟩, [], "java/lang/IndexOutOfBoundsException", 3, 1, rfl, (fun z h => by cases h), by decide, by decide, t_1628, t_1637, (Or.inl ⟨3, dL_writtenAt_12, rfl, rfl⟩), by decide, fun z hz => ?_⟩
      refine g_iconst (v := 1) dL_writtenAt_13 (by decide) ?_
      exact g_iretW dL_writtenAt_14 rfl hX2 hX1 rfl ⟨z, rfl, hz⟩
    · rw [if_neg h0] at hf
      cases hf

def hhL_keep : List (Nat × Nat × Nat × Nat) := [(0, 9, 12, 19)]
abbrev MtL_keep : Mt := (cL_keep, 4, "ExactlySaidLaw", some .int, 9, 182, false)
set_option maxRecDepth 100000 in
set_option maxHeartbeats 4000000 in
theorem wL_keep (l : Launch) (hst : l.stackTraces = false) {σ σf : St} {x0 : Nat} {x1 : Int32} {x2 : Nat} {r : Int32} (hf : fL_keep σ x0 x1 x2 = some (σf, r)) : ConW MtL_keep yL_keep hhL_keep l σ [rv x0, .int x1, rv x2] σf (some (.int r)) := by
  refine ConW.of hst (by decide +kernel) rfl (fun h => absurd (show false = true from h) (by decide)) (by simp only [sl_n, sl_r, sl_i, sl_l]; exact Nat.le_of_ble_eq_true rfl) ?_
  rw [show lv_args 0 [rv x0, .int x1, rv x2] = [(0, rv x0), (1, .int x1), (2, rv x2)] by simp only [la_n, la_r, la_i, la_l] <;> rfl]
  have hX0 : ((l, σ, σf, .inr (.inr (KW σ σf (some (.int r)), tableOf hhL_keep))) : Xt).1 = l := rfl
  have hX1 : ((l, σ, σf, .inr (.inr (KW σ σf (some (.int r)), tableOf hhL_keep))) : Xt).2.2.1 = σf := rfl
  have hX2 : ((l, σ, σf, .inr (.inr (KW σ σf (some (.int r)), tableOf hhL_keep))) : Xt).2.2.2 = .inr (.inr (KW ((l, σ, σf, .inr (.inr (KW σ σf (some (.int r)), tableOf hhL_keep))) : Xt).2.1 σf (some (.int r)), tableOf hhL_keep)) := rfl
  generalize ((l, σ, σf, .inr (.inr (KW σ σf (some (.int r)), tableOf hhL_keep))) : Xt) = X at hX0 hX1 hX2 ⊢
  subst hX0
  unfold fL_keep at hf
  obtain ⟨_, h0, hf⟩ := ob hf
  obtain ⟨σ1, q, e1, hf⟩ := cb_el hf
  refine g_aload_n (j := 2) dL_keep_0 rfl rfl ?_
  refine g_iconst (v := 0) dL_keep_1 (by decide) ?_
  refine g_aload_n (j := 0) dL_keep_2 rfl rfl ?_
  refine g_iload_n (j := 1) dL_keep_3 rfl rfl ?_
  refine g_callT_i hX2 dL_keep_4 (wX11_keep _ hst e1) (okX11_keep _ (by decide) (by decide)) (ckK_el h0) hc15 t_1667 t_1668 t_1669 rfl (Nat.le_trans (cat_le _) (Nat.le_of_ble_eq_true rfl)) rfl (fun v hv => ?_) (fun E hE => ?_)
  · subst hv
    obtain ⟨σ2, e2, hf⟩ := ob hf
    cases hf
    refine g_i2l dL_keep_7 rfl ?_
    refine g_jst dL_keep_8 e2 ?_
    refine g_goto (tgt := 15) dL_keep_9 (by decide) ?_
    refine g_iconst (v := 0) dL_keep_15 (by decide) ?_
    exact g_iretW dL_keep_16 rfl hX2 hX1 rfl ⟨sz _, rfl, Nat.le_refl _⟩
  · subst hE
    dsimp only at hf
    by_cases h0 : E = "java/lang/IllegalArgumentException"
    · rw [if_pos h0] at hf
      cases hf
      subst h0
      refine ⟨[], ⟨0, 9, 12, 19⟩, [], "java/lang/IllegalArgumentException", 3, 1, rfl, (fun z h => by cases h), by decide, by decide, t_1292, t_665, (Or.inl ⟨3, dL_keep_12, rfl, rfl⟩), by decide, fun z hz => ?_⟩
      refine g_iconst (v := 1) dL_keep_13 (by decide) ?_
      exact g_iretW dL_keep_14 rfl hX2 hX1 rfl ⟨z, rfl, hz⟩
    · rw [if_neg h0] at hf
      cases hf

def hhL_take : List (Nat × Nat × Nat × Nat) := [(0, 9, 12, 19)]
abbrev MtL_take : Mt := (cL_take, 4, "ExactlySaidLaw", some .int, 9, 181, false)
set_option maxRecDepth 100000 in
set_option maxHeartbeats 4000000 in
theorem wL_take (l : Launch) (hst : l.stackTraces = false) {σ σf : St} {x0 : Nat} {x1 : Int32} {x2 : Nat} {r : Int32} (hf : fL_take σ x0 x1 x2 = some (σf, r)) : ConW MtL_take yL_take hhL_take l σ [rv x0, .int x1, rv x2] σf (some (.int r)) := by
  refine ConW.of hst (by decide +kernel) rfl (fun h => absurd (show false = true from h) (by decide)) (by simp only [sl_n, sl_r, sl_i, sl_l]; exact Nat.le_of_ble_eq_true rfl) ?_
  rw [show lv_args 0 [rv x0, .int x1, rv x2] = [(0, rv x0), (1, .int x1), (2, rv x2)] by simp only [la_n, la_r, la_i, la_l] <;> rfl]
  have hX0 : ((l, σ, σf, .inr (.inr (KW σ σf (some (.int r)), tableOf hhL_take))) : Xt).1 = l := rfl
  have hX1 : ((l, σ, σf, .inr (.inr (KW σ σf (some (.int r)), tableOf hhL_take))) : Xt).2.2.1 = σf := rfl
  have hX2 : ((l, σ, σf, .inr (.inr (KW σ σf (some (.int r)), tableOf hhL_take))) : Xt).2.2.2 = .inr (.inr (KW ((l, σ, σf, .inr (.inr (KW σ σf (some (.int r)), tableOf hhL_take))) : Xt).2.1 σf (some (.int r)), tableOf hhL_take)) := rfl
  generalize ((l, σ, σf, .inr (.inr (KW σ σf (some (.int r)), tableOf hhL_take))) : Xt) = X at hX0 hX1 hX2 ⊢
  subst hX0
  unfold fL_take at hf
  obtain ⟨_, h0, hf⟩ := ob hf
  obtain ⟨σ1, q, e1, hf⟩ := cb_el hf
  refine g_aload_n (j := 2) dL_take_0 rfl rfl ?_
  refine g_iconst (v := 0) dL_take_1 (by decide) ?_
  refine g_aload_n (j := 0) dL_take_2 rfl rfl ?_
  refine g_iload_n (j := 1) dL_take_3 rfl rfl ?_
  refine g_callT_i hX2 dL_take_4 (wX11_take _ hst e1) (okX11_take _ (by decide) (by decide)) (ckK_el h0) hc15 t_1678 t_1679 t_1680 rfl (Nat.le_trans (cat_le _) (Nat.le_of_ble_eq_true rfl)) rfl (fun v hv => ?_) (fun E hE => ?_)
  · subst hv
    obtain ⟨σ2, e2, hf⟩ := ob hf
    cases hf
    refine g_i2l dL_take_7 rfl ?_
    refine g_jst dL_take_8 e2 ?_
    refine g_goto (tgt := 15) dL_take_9 (by decide) ?_
    refine g_iconst (v := 0) dL_take_15 (by decide) ?_
    exact g_iretW dL_take_16 rfl hX2 hX1 rfl ⟨sz _, rfl, Nat.le_refl _⟩
  · subst hE
    dsimp only at hf
    by_cases h0 : E = "java/lang/IllegalArgumentException"
    · rw [if_pos h0] at hf
      cases hf
      subst h0
      refine ⟨[], ⟨0, 9, 12, 19⟩, [], "java/lang/IllegalArgumentException", 3, 1, rfl, (fun z h => by cases h), by decide, by decide, t_1292, t_665, (Or.inl ⟨3, dL_take_12, rfl, rfl⟩), by decide, fun z hz => ?_⟩
      refine g_iconst (v := 1) dL_take_13 (by decide) ?_
      exact g_iretW dL_take_14 rfl hX2 hX1 rfl ⟨z, rfl, hz⟩
    · rw [if_neg h0] at hf
      cases hf

def hhL_compare : List (Nat × Nat × Nat × Nat) := [(0, 10, 13, 19)]
abbrev MtL_compare : Mt := (cL_compare, 5, "ExactlySaidLaw", some .int, 9, 182, false)
set_option maxRecDepth 100000 in
set_option maxHeartbeats 4000000 in
theorem wL_compare (l : Launch) (hst : l.stackTraces = false) {σ σf : St} {x0 : Nat} {x1 : Int32} {x2 : Int32} {x3 : Nat} {r : Int32} (hf : fL_compare σ x0 x1 x2 x3 = some (σf, r)) : ConW MtL_compare yL_compare hhL_compare l σ [rv x0, .int x1, .int x2, rv x3] σf (some (.int r)) := by
  refine ConW.of hst (by decide +kernel) rfl (fun h => absurd (show false = true from h) (by decide)) (by simp only [sl_n, sl_r, sl_i, sl_l]; exact Nat.le_of_ble_eq_true rfl) ?_
  rw [show lv_args 0 [rv x0, .int x1, .int x2, rv x3] = [(0, rv x0), (1, .int x1), (2, .int x2), (3, rv x3)] by simp only [la_n, la_r, la_i, la_l] <;> rfl]
  have hX0 : ((l, σ, σf, .inr (.inr (KW σ σf (some (.int r)), tableOf hhL_compare))) : Xt).1 = l := rfl
  have hX1 : ((l, σ, σf, .inr (.inr (KW σ σf (some (.int r)), tableOf hhL_compare))) : Xt).2.2.1 = σf := rfl
  have hX2 : ((l, σ, σf, .inr (.inr (KW σ σf (some (.int r)), tableOf hhL_compare))) : Xt).2.2.2 = .inr (.inr (KW ((l, σ, σf, .inr (.inr (KW σ σf (some (.int r)), tableOf hhL_compare))) : Xt).2.1 σf (some (.int r)), tableOf hhL_compare)) := rfl
  generalize ((l, σ, σf, .inr (.inr (KW σ σf (some (.int r)), tableOf hhL_compare))) : Xt) = X at hX0 hX1 hX2 ⊢
  subst hX0
  unfold fL_compare at hf
  obtain ⟨_, h0, hf⟩ := ob hf
  obtain ⟨σ1, q, e1, hf⟩ := cb_el hf
  refine g_aload_n (j := 3) dL_compare_0 rfl rfl ?_
  refine g_iconst (v := 0) dL_compare_1 (by decide) ?_
  refine g_aload_n (j := 0) dL_compare_2 rfl rfl ?_
  refine g_iload_n (j := 1) dL_compare_3 rfl rfl ?_
  refine g_iload_n (j := 2) dL_compare_4 rfl rfl ?_
  refine g_callT_i hX2 dL_compare_5 (wX11_compare _ hst e1) (okX11_compare _ (by decide) (by decide)) (ckK_el h0) hc15 t_1685 t_1686 t_1687 rfl (Nat.le_trans (cat_le _) (Nat.le_of_ble_eq_true rfl)) rfl (fun v hv => ?_) (fun E hE => ?_)
  · subst hv
    obtain ⟨σ2, e2, hf⟩ := ob hf
    cases hf
    refine g_i2l dL_compare_8 rfl ?_
    refine g_jst dL_compare_9 e2 ?_
    refine g_goto (tgt := 17) dL_compare_10 (by decide) ?_
    refine g_iconst (v := 0) dL_compare_17 (by decide) ?_
    exact g_iretW dL_compare_18 rfl hX2 hX1 rfl ⟨sz _, rfl, Nat.le_refl _⟩
  · subst hE
    dsimp only at hf
    by_cases h0 : E = "java/lang/IllegalArgumentException"
    · rw [if_pos h0] at hf
      cases hf
      subst h0
      refine ⟨[], ⟨0, 10, 13, 19⟩, [], "java/lang/IllegalArgumentException", 4, 2, rfl, (fun z h => by cases h), by decide, by decide, t_1292, t_665, (Or.inr ⟨dL_compare_13, rfl⟩), by decide, fun z hz => ?_⟩
      refine g_iconst (v := 1) dL_compare_15 (by decide) ?_
      exact g_iretW dL_compare_16 rfl hX2 hX1 rfl ⟨z, rfl, hz⟩
    · rw [if_neg h0] at hf
      cases hf

def hhL_nameAt : List (Nat × Nat × Nat × Nat) := [(0, 9, 12, 30)]
abbrev MtL_nameAt : Mt := (cL_nameAt, 4, "ExactlySaidLaw", some .int, 9, 182, false)
set_option maxRecDepth 100000 in
set_option maxHeartbeats 4000000 in
theorem wL_nameAt (l : Launch) (hst : l.stackTraces = false) {σ σf : St} {x0 : Nat} {x1 : Int32} {x2 : Nat} {r : Int32} (hf : fL_nameAt σ x0 x1 x2 = some (σf, r)) : ConW MtL_nameAt yL_nameAt hhL_nameAt l σ [rv x0, .int x1, rv x2] σf (some (.int r)) := by
  refine ConW.of hst (by decide +kernel) rfl (fun h => absurd (show false = true from h) (by decide)) (by simp only [sl_n, sl_r, sl_i, sl_l]; exact Nat.le_of_ble_eq_true rfl) ?_
  rw [show lv_args 0 [rv x0, .int x1, rv x2] = [(0, rv x0), (1, .int x1), (2, rv x2)] by simp only [la_n, la_r, la_i, la_l] <;> rfl]
  have hX0 : ((l, σ, σf, .inr (.inr (KW σ σf (some (.int r)), tableOf hhL_nameAt))) : Xt).1 = l := rfl
  have hX1 : ((l, σ, σf, .inr (.inr (KW σ σf (some (.int r)), tableOf hhL_nameAt))) : Xt).2.2.1 = σf := rfl
  have hX2 : ((l, σ, σf, .inr (.inr (KW σ σf (some (.int r)), tableOf hhL_nameAt))) : Xt).2.2.2 = .inr (.inr (KW ((l, σ, σf, .inr (.inr (KW σ σf (some (.int r)), tableOf hhL_nameAt))) : Xt).2.1 σf (some (.int r)), tableOf hhL_nameAt)) := rfl
  generalize ((l, σ, σf, .inr (.inr (KW σ σf (some (.int r)), tableOf hhL_nameAt))) : Xt) = X at hX0 hX1 hX2 ⊢
  subst hX0
  unfold fL_nameAt at hf
  obtain ⟨_, h0, hf⟩ := ob hf
  obtain ⟨σ1, q, e1, hf⟩ := cb_el hf
  refine g_aload_n (j := 2) dL_nameAt_0 rfl rfl ?_
  refine g_iconst (v := 0) dL_nameAt_1 (by decide) ?_
  refine g_aload_n (j := 0) dL_nameAt_2 rfl rfl ?_
  refine g_iload_n (j := 1) dL_nameAt_3 rfl rfl ?_
  refine g_callT_i hX2 dL_nameAt_4 (wX11_nameAt _ hst e1) (okX11_nameAt _ (by decide) (by decide)) (ckK_el h0) hc15 t_1693 t_1694 t_1695 rfl (Nat.le_trans (cat_le _) (Nat.le_of_ble_eq_true rfl)) rfl (fun v hv => ?_) (fun E hE => ?_)
  · subst hv
    obtain ⟨σ2, e2, hf⟩ := ob hf
    cases hf
    refine g_i2l dL_nameAt_7 rfl ?_
    refine g_jst dL_nameAt_8 e2 ?_
    refine g_goto (tgt := 15) dL_nameAt_9 (by decide) ?_
    refine g_iconst (v := 0) dL_nameAt_15 (by decide) ?_
    exact g_iretW dL_nameAt_16 rfl hX2 hX1 rfl ⟨sz _, rfl, Nat.le_refl _⟩
  · subst hE
    dsimp only at hf
    by_cases h0 : E = "java/lang/IndexOutOfBoundsException"
    · rw [if_pos h0] at hf
      cases hf
      subst h0
      refine ⟨[], ⟨0, 9, 12, 30⟩, [], "java/lang/IndexOutOfBoundsException", 3, 1, rfl, (fun z h => by cases h), by decide, by decide, t_1628, t_1637, (Or.inl ⟨3, dL_nameAt_12, rfl, rfl⟩), by decide, fun z hz => ?_⟩
      refine g_iconst (v := 1) dL_nameAt_13 (by decide) ?_
      exact g_iretW dL_nameAt_14 rfl hX2 hX1 rfl ⟨z, rfl, hz⟩
    · rw [if_neg h0] at hf
      cases hf

def hhL_takeName : List (Nat × Nat × Nat × Nat) := [(0, 9, 12, 56)]
abbrev MtL_takeName : Mt := (cL_takeName, 4, "ExactlySaidLaw", some .int, 9, 182, false)
set_option maxRecDepth 100000 in
set_option maxHeartbeats 4000000 in
theorem wL_takeName (l : Launch) (hst : l.stackTraces = false) {σ σf : St} {x0 : Nat} {x1 : Int32} {x2 : Nat} {r : Int32} (hf : fL_takeName σ x0 x1 x2 = some (σf, r)) : ConW MtL_takeName yL_takeName hhL_takeName l σ [rv x0, .int x1, rv x2] σf (some (.int r)) := by
  refine ConW.of hst (by decide +kernel) rfl (fun h => absurd (show false = true from h) (by decide)) (by simp only [sl_n, sl_r, sl_i, sl_l]; exact Nat.le_of_ble_eq_true rfl) ?_
  rw [show lv_args 0 [rv x0, .int x1, rv x2] = [(0, rv x0), (1, .int x1), (2, rv x2)] by simp only [la_n, la_r, la_i, la_l] <;> rfl]
  have hX0 : ((l, σ, σf, .inr (.inr (KW σ σf (some (.int r)), tableOf hhL_takeName))) : Xt).1 = l := rfl
  have hX1 : ((l, σ, σf, .inr (.inr (KW σ σf (some (.int r)), tableOf hhL_takeName))) : Xt).2.2.1 = σf := rfl
  have hX2 : ((l, σ, σf, .inr (.inr (KW σ σf (some (.int r)), tableOf hhL_takeName))) : Xt).2.2.2 = .inr (.inr (KW ((l, σ, σf, .inr (.inr (KW σ σf (some (.int r)), tableOf hhL_takeName))) : Xt).2.1 σf (some (.int r)), tableOf hhL_takeName)) := rfl
  generalize ((l, σ, σf, .inr (.inr (KW σ σf (some (.int r)), tableOf hhL_takeName))) : Xt) = X at hX0 hX1 hX2 ⊢
  subst hX0
  unfold fL_takeName at hf
  obtain ⟨_, h0, hf⟩ := ob hf
  obtain ⟨σ1, q, e1, hf⟩ := cb_el hf
  refine g_aload_n (j := 2) dL_takeName_0 rfl rfl ?_
  refine g_iconst (v := 0) dL_takeName_1 (by decide) ?_
  refine g_aload_n (j := 0) dL_takeName_2 rfl rfl ?_
  refine g_iload_n (j := 1) dL_takeName_3 rfl rfl ?_
  refine g_callT_i hX2 dL_takeName_4 (wX11_takeName _ hst e1) (okX11_takeName _ (by decide) (by decide)) (ckK_el h0) hc15 t_1701 t_1702 t_1703 rfl (Nat.le_trans (cat_le _) (Nat.le_of_ble_eq_true rfl)) rfl (fun v hv => ?_) (fun E hE => ?_)
  · subst hv
    obtain ⟨σ2, e2, hf⟩ := ob hf
    cases hf
    refine g_i2l dL_takeName_7 rfl ?_
    refine g_jst dL_takeName_8 e2 ?_
    refine g_goto (tgt := 15) dL_takeName_9 (by decide) ?_
    refine g_iconst (v := 0) dL_takeName_15 (by decide) ?_
    exact g_iretW dL_takeName_16 rfl hX2 hX1 rfl ⟨sz _, rfl, Nat.le_refl _⟩
  · subst hE
    dsimp only at hf
    by_cases h0 : E = "java/util/NoSuchElementException"
    · rw [if_pos h0] at hf
      cases hf
      subst h0
      refine ⟨[], ⟨0, 9, 12, 56⟩, [], "java/util/NoSuchElementException", 3, 1, rfl, (fun z h => by cases h), by decide, by decide, t_1700, t_1707, (Or.inl ⟨3, dL_takeName_12, rfl, rfl⟩), by decide, fun z hz => ?_⟩
      refine g_iconst (v := 1) dL_takeName_13 (by decide) ?_
      exact g_iretW dL_takeName_14 rfl hX2 hX1 rfl ⟨z, rfl, hz⟩
    · rw [if_neg h0] at hf
      cases hf

def hhL_parameters : List (Nat × Nat × Nat × Nat) := [(0, 9, 12, 56)]
abbrev MtL_parameters : Mt := (cL_parameters, 4, "ExactlySaidLaw", some .int, 9, 182, false)
set_option maxRecDepth 100000 in
set_option maxHeartbeats 4000000 in
theorem wL_parameters (l : Launch) (hst : l.stackTraces = false) {σ σf : St} {x0 : Nat} {x1 : Int32} {x2 : Nat} {r : Int32} (hf : fL_parameters σ x0 x1 x2 = some (σf, r)) : ConW MtL_parameters yL_parameters hhL_parameters l σ [rv x0, .int x1, rv x2] σf (some (.int r)) := by
  refine ConW.of hst (by decide +kernel) rfl (fun h => absurd (show false = true from h) (by decide)) (by simp only [sl_n, sl_r, sl_i, sl_l]; exact Nat.le_of_ble_eq_true rfl) ?_
  rw [show lv_args 0 [rv x0, .int x1, rv x2] = [(0, rv x0), (1, .int x1), (2, rv x2)] by simp only [la_n, la_r, la_i, la_l] <;> rfl]
  have hX0 : ((l, σ, σf, .inr (.inr (KW σ σf (some (.int r)), tableOf hhL_parameters))) : Xt).1 = l := rfl
  have hX1 : ((l, σ, σf, .inr (.inr (KW σ σf (some (.int r)), tableOf hhL_parameters))) : Xt).2.2.1 = σf := rfl
  have hX2 : ((l, σ, σf, .inr (.inr (KW σ σf (some (.int r)), tableOf hhL_parameters))) : Xt).2.2.2 = .inr (.inr (KW ((l, σ, σf, .inr (.inr (KW σ σf (some (.int r)), tableOf hhL_parameters))) : Xt).2.1 σf (some (.int r)), tableOf hhL_parameters)) := rfl
  generalize ((l, σ, σf, .inr (.inr (KW σ σf (some (.int r)), tableOf hhL_parameters))) : Xt) = X at hX0 hX1 hX2 ⊢
  subst hX0
  unfold fL_parameters at hf
  obtain ⟨_, h0, hf⟩ := ob hf
  obtain ⟨σ1, q, e1, hf⟩ := cb_el hf
  refine g_aload_n (j := 2) dL_parameters_0 rfl rfl ?_
  refine g_iconst (v := 0) dL_parameters_1 (by decide) ?_
  refine g_aload_n (j := 0) dL_parameters_2 rfl rfl ?_
  refine g_iload_n (j := 1) dL_parameters_3 rfl rfl ?_
  refine g_callT_i hX2 dL_parameters_4 (wX11_parameters _ hst e1) (okX11_parameters _ (by decide) (by decide)) (ckK_el h0) hc15 t_1723 t_1724 t_1725 rfl (Nat.le_trans (cat_le _) (Nat.le_of_ble_eq_true rfl)) rfl (fun v hv => ?_) (fun E hE => ?_)
  · subst hv
    obtain ⟨σ2, e2, hf⟩ := ob hf
    cases hf
    refine g_i2l dL_parameters_7 rfl ?_
    refine g_jst dL_parameters_8 e2 ?_
    refine g_goto (tgt := 15) dL_parameters_9 (by decide) ?_
    refine g_iconst (v := 0) dL_parameters_15 (by decide) ?_
    exact g_iretW dL_parameters_16 rfl hX2 hX1 rfl ⟨sz _, rfl, Nat.le_refl _⟩
  · subst hE
    dsimp only at hf
    by_cases h0 : E = "java/util/NoSuchElementException"
    · rw [if_pos h0] at hf
      cases hf
      subst h0
      refine ⟨[], ⟨0, 9, 12, 56⟩, [], "java/util/NoSuchElementException", 3, 1, rfl, (fun z h => by cases h), by decide, by decide, t_1700, t_1707, (Or.inl ⟨3, dL_parameters_12, rfl, rfl⟩), by decide, fun z hz => ?_⟩
      refine g_iconst (v := 1) dL_parameters_13 (by decide) ?_
      exact g_iretW dL_parameters_14 rfl hX2 hX1 rfl ⟨z, rfl, hz⟩
    · rw [if_neg h0] at hf
      cases hf

def hhL_drop : List (Nat × Nat × Nat × Nat) := [(0, 10, 13, 56), (0, 10, 17, 13)]
abbrev MtL_drop : Mt := (cL_drop, 5, "ExactlySaidLaw", some .int, 9, 201, false)
set_option maxRecDepth 100000 in
set_option maxHeartbeats 4000000 in
theorem wL_drop (l : Launch) (hst : l.stackTraces = false) {σ σf : St} {x0 : Nat} {x1 : Int32} {x2 : Int32} {x3 : Nat} {r : Int32} (hf : fL_drop σ x0 x1 x2 x3 = some (σf, r)) : ConW MtL_drop yL_drop hhL_drop l σ [rv x0, .int x1, .int x2, rv x3] σf (some (.int r)) := by
  refine ConW.of hst (by decide +kernel) rfl (fun h => absurd (show false = true from h) (by decide)) (by simp only [sl_n, sl_r, sl_i, sl_l]; exact Nat.le_of_ble_eq_true rfl) ?_
  rw [show lv_args 0 [rv x0, .int x1, .int x2, rv x3] = [(0, rv x0), (1, .int x1), (2, .int x2), (3, rv x3)] by simp only [la_n, la_r, la_i, la_l] <;> rfl]
  have hX0 : ((l, σ, σf, .inr (.inr (KW σ σf (some (.int r)), tableOf hhL_drop))) : Xt).1 = l := rfl
  have hX1 : ((l, σ, σf, .inr (.inr (KW σ σf (some (.int r)), tableOf hhL_drop))) : Xt).2.2.1 = σf := rfl
  have hX2 : ((l, σ, σf, .inr (.inr (KW σ σf (some (.int r)), tableOf hhL_drop))) : Xt).2.2.2 = .inr (.inr (KW ((l, σ, σf, .inr (.inr (KW σ σf (some (.int r)), tableOf hhL_drop))) : Xt).2.1 σf (some (.int r)), tableOf hhL_drop)) := rfl
  generalize ((l, σ, σf, .inr (.inr (KW σ σf (some (.int r)), tableOf hhL_drop))) : Xt) = X at hX0 hX1 hX2 ⊢
  subst hX0
  unfold fL_drop at hf
  obtain ⟨_, h0, hf⟩ := ob hf
  obtain ⟨σ1, q, e1, hf⟩ := cb_el hf
  refine g_aload_n (j := 3) dL_drop_0 rfl rfl ?_
  refine g_iconst (v := 0) dL_drop_1 (by decide) ?_
  refine g_aload_n (j := 0) dL_drop_2 rfl rfl ?_
  refine g_iload_n (j := 1) dL_drop_3 rfl rfl ?_
  refine g_iload_n (j := 2) dL_drop_4 rfl rfl ?_
  refine g_callT_i hX2 dL_drop_5 (wX11_drop _ hst e1) (okX11_drop _ (by decide) (by decide)) (ckK_el h0) hc15 t_1730 t_1731 t_1732 rfl (Nat.le_trans (cat_le _) (Nat.le_of_ble_eq_true rfl)) rfl (fun v hv => ?_) (fun E hE => ?_)
  · subst hv
    obtain ⟨σ2, e2, hf⟩ := ob hf
    cases hf
    refine g_i2l dL_drop_8 rfl ?_
    refine g_jst dL_drop_9 e2 ?_
    refine g_goto (tgt := 21) dL_drop_10 (by decide) ?_
    refine g_iconst (v := 0) dL_drop_21 (by decide) ?_
    exact g_iretW dL_drop_22 rfl hX2 hX1 rfl ⟨sz _, rfl, Nat.le_refl _⟩
  · subst hE
    dsimp only at hf
    by_cases h0 : E = "java/util/NoSuchElementException"
    · rw [if_pos h0] at hf
      cases hf
      subst h0
      refine ⟨[], ⟨0, 10, 13, 56⟩, [⟨0, 10, 17, 13⟩], "java/util/NoSuchElementException", 4, 2, rfl, (fun z h => by cases h), by decide, by decide, t_1700, t_1707, (Or.inr ⟨dL_drop_13, rfl⟩), by decide, fun z hz => ?_⟩
      refine g_iconst (v := 1) dL_drop_15 (by decide) ?_
      exact g_iretW dL_drop_16 rfl hX2 hX1 rfl ⟨z, rfl, hz⟩
    · rw [if_neg h0] at hf
      by_cases h1 : E = "java/lang/IllegalStateException"
      · rw [if_pos h1] at hf
        cases hf
        subst h1
        refine ⟨[⟨0, 10, 13, 56⟩], ⟨0, 10, 17, 13⟩, [], "java/lang/IllegalStateException", 4, 2, rfl, (fun z h => by
          rcases List.mem_cons.mp h with rfl | h
          · exact ⟨by decide, "java/util/NoSuchElementException", t_1700, by decide +kernel⟩
          cases h), by decide, by decide, t_1256, t_1266, (Or.inr ⟨dL_drop_17, rfl⟩), by decide, fun z hz => ?_⟩
        refine g_iconst (v := 2) dL_drop_19 (by decide) ?_
        exact g_iretW dL_drop_20 rfl hX2 hX1 rfl ⟨z, rfl, hz⟩
      · rw [if_neg h1] at hf
        cases hf

def hhL_stepAt : List (Nat × Nat × Nat × Nat) := [(0, 9, 12, 30)]
abbrev MtL_stepAt : Mt := (cL_stepAt, 4, "ExactlySaidLaw", some .int, 9, 181, false)
set_option maxRecDepth 100000 in
set_option maxHeartbeats 4000000 in
theorem wL_stepAt (l : Launch) (hst : l.stackTraces = false) {σ σf : St} {x0 : Nat} {x1 : Int32} {x2 : Nat} {r : Int32} (hf : fL_stepAt σ x0 x1 x2 = some (σf, r)) : ConW MtL_stepAt yL_stepAt hhL_stepAt l σ [rv x0, .int x1, rv x2] σf (some (.int r)) := by
  refine ConW.of hst (by decide +kernel) rfl (fun h => absurd (show false = true from h) (by decide)) (by simp only [sl_n, sl_r, sl_i, sl_l]; exact Nat.le_of_ble_eq_true rfl) ?_
  rw [show lv_args 0 [rv x0, .int x1, rv x2] = [(0, rv x0), (1, .int x1), (2, rv x2)] by simp only [la_n, la_r, la_i, la_l] <;> rfl]
  have hX0 : ((l, σ, σf, .inr (.inr (KW σ σf (some (.int r)), tableOf hhL_stepAt))) : Xt).1 = l := rfl
  have hX1 : ((l, σ, σf, .inr (.inr (KW σ σf (some (.int r)), tableOf hhL_stepAt))) : Xt).2.2.1 = σf := rfl
  have hX2 : ((l, σ, σf, .inr (.inr (KW σ σf (some (.int r)), tableOf hhL_stepAt))) : Xt).2.2.2 = .inr (.inr (KW ((l, σ, σf, .inr (.inr (KW σ σf (some (.int r)), tableOf hhL_stepAt))) : Xt).2.1 σf (some (.int r)), tableOf hhL_stepAt)) := rfl
  generalize ((l, σ, σf, .inr (.inr (KW σ σf (some (.int r)), tableOf hhL_stepAt))) : Xt) = X at hX0 hX1 hX2 ⊢
  subst hX0
  unfold fL_stepAt at hf
  obtain ⟨_, h0, hf⟩ := ob hf
  obtain ⟨σ1, q, e1, hf⟩ := cb_el hf
  refine g_aload_n (j := 2) dL_stepAt_0 rfl rfl ?_
  refine g_iconst (v := 0) dL_stepAt_1 (by decide) ?_
  refine g_aload_n (j := 0) dL_stepAt_2 rfl rfl ?_
  refine g_iload_n (j := 1) dL_stepAt_3 rfl rfl ?_
  refine g_callT_i hX2 dL_stepAt_4 (wX11_stepAt _ hst e1) (okX11_stepAt _ (by decide) (by decide)) (ckK_el h0) hc15 t_1744 t_1745 t_1746 rfl (Nat.le_trans (cat_le _) (Nat.le_of_ble_eq_true rfl)) rfl (fun v hv => ?_) (fun E hE => ?_)
  · subst hv
    obtain ⟨σ2, e2, hf⟩ := ob hf
    cases hf
    refine g_i2l dL_stepAt_7 rfl ?_
    refine g_jst dL_stepAt_8 e2 ?_
    refine g_goto (tgt := 15) dL_stepAt_9 (by decide) ?_
    refine g_iconst (v := 0) dL_stepAt_15 (by decide) ?_
    exact g_iretW dL_stepAt_16 rfl hX2 hX1 rfl ⟨sz _, rfl, Nat.le_refl _⟩
  · subst hE
    dsimp only at hf
    by_cases h0 : E = "java/lang/IndexOutOfBoundsException"
    · rw [if_pos h0] at hf
      cases hf
      subst h0
      refine ⟨[], ⟨0, 9, 12, 30⟩, [], "java/lang/IndexOutOfBoundsException", 3, 1, rfl, (fun z h => by cases h), by decide, by decide, t_1628, t_1637, (Or.inl ⟨3, dL_stepAt_12, rfl, rfl⟩), by decide, fun z hz => ?_⟩
      refine g_iconst (v := 1) dL_stepAt_13 (by decide) ?_
      exact g_iretW dL_stepAt_14 rfl hX2 hX1 rfl ⟨z, rfl, hz⟩
    · rw [if_neg h0] at hf
      cases hf

def hhL_takeStep : List (Nat × Nat × Nat × Nat) := [(0, 9, 12, 30)]
abbrev MtL_takeStep : Mt := (cL_takeStep, 4, "ExactlySaidLaw", some .int, 9, 190, false)
set_option maxRecDepth 100000 in
set_option maxHeartbeats 4000000 in
theorem wL_takeStep (l : Launch) (hst : l.stackTraces = false) {σ σf : St} {x0 : Nat} {x1 : Int32} {x2 : Nat} {r : Int32} (hf : fL_takeStep σ x0 x1 x2 = some (σf, r)) : ConW MtL_takeStep yL_takeStep hhL_takeStep l σ [rv x0, .int x1, rv x2] σf (some (.int r)) := by
  refine ConW.of hst (by decide +kernel) rfl (fun h => absurd (show false = true from h) (by decide)) (by simp only [sl_n, sl_r, sl_i, sl_l]; exact Nat.le_of_ble_eq_true rfl) ?_
  rw [show lv_args 0 [rv x0, .int x1, rv x2] = [(0, rv x0), (1, .int x1), (2, rv x2)] by simp only [la_n, la_r, la_i, la_l] <;> rfl]
  have hX0 : ((l, σ, σf, .inr (.inr (KW σ σf (some (.int r)), tableOf hhL_takeStep))) : Xt).1 = l := rfl
  have hX1 : ((l, σ, σf, .inr (.inr (KW σ σf (some (.int r)), tableOf hhL_takeStep))) : Xt).2.2.1 = σf := rfl
  have hX2 : ((l, σ, σf, .inr (.inr (KW σ σf (some (.int r)), tableOf hhL_takeStep))) : Xt).2.2.2 = .inr (.inr (KW ((l, σ, σf, .inr (.inr (KW σ σf (some (.int r)), tableOf hhL_takeStep))) : Xt).2.1 σf (some (.int r)), tableOf hhL_takeStep)) := rfl
  generalize ((l, σ, σf, .inr (.inr (KW σ σf (some (.int r)), tableOf hhL_takeStep))) : Xt) = X at hX0 hX1 hX2 ⊢
  subst hX0
  unfold fL_takeStep at hf
  obtain ⟨_, h0, hf⟩ := ob hf
  obtain ⟨σ1, q, e1, hf⟩ := cb_el hf
  refine g_aload_n (j := 2) dL_takeStep_0 rfl rfl ?_
  refine g_iconst (v := 0) dL_takeStep_1 (by decide) ?_
  refine g_aload_n (j := 0) dL_takeStep_2 rfl rfl ?_
  refine g_iload_n (j := 1) dL_takeStep_3 rfl rfl ?_
  refine g_callT_i hX2 dL_takeStep_4 (wX11_takeStep _ hst e1) (okX11_takeStep _ (by decide) (by decide)) (ckK_el h0) hc15 t_1751 t_1752 t_1753 rfl (Nat.le_trans (cat_le _) (Nat.le_of_ble_eq_true rfl)) rfl (fun v hv => ?_) (fun E hE => ?_)
  · subst hv
    obtain ⟨σ2, e2, hf⟩ := ob hf
    cases hf
    refine g_i2l dL_takeStep_7 rfl ?_
    refine g_jst dL_takeStep_8 e2 ?_
    refine g_goto (tgt := 15) dL_takeStep_9 (by decide) ?_
    refine g_iconst (v := 0) dL_takeStep_15 (by decide) ?_
    exact g_iretW dL_takeStep_16 rfl hX2 hX1 rfl ⟨sz _, rfl, Nat.le_refl _⟩
  · subst hE
    dsimp only at hf
    by_cases h0 : E = "java/lang/IndexOutOfBoundsException"
    · rw [if_pos h0] at hf
      cases hf
      subst h0
      refine ⟨[], ⟨0, 9, 12, 30⟩, [], "java/lang/IndexOutOfBoundsException", 3, 1, rfl, (fun z h => by cases h), by decide, by decide, t_1628, t_1637, (Or.inl ⟨3, dL_takeStep_12, rfl, rfl⟩), by decide, fun z hz => ?_⟩
      refine g_iconst (v := 1) dL_takeStep_13 (by decide) ?_
      exact g_iretW dL_takeStep_14 rfl hX2 hX1 rfl ⟨z, rfl, hz⟩
    · rw [if_neg h0] at hf
      cases hf

def hhL_decimal : List (Nat × Nat × Nat × Nat) := [(0, 9, 12, 19)]
abbrev MtL_decimal : Mt := (cL_decimal, 4, "ExactlySaidLaw", some .int, 9, 240, false)
set_option maxRecDepth 100000 in
set_option maxHeartbeats 4000000 in
theorem wL_decimal (l : Launch) (hst : l.stackTraces = false) {σ σf : St} {x0 : Nat} {x1 : Int32} {x2 : Nat} {r : Int32} (hf : fL_decimal σ x0 x1 x2 = some (σf, r)) : ConW MtL_decimal yL_decimal hhL_decimal l σ [rv x0, .int x1, rv x2] σf (some (.int r)) := by
  refine ConW.of hst (by decide +kernel) rfl (fun h => absurd (show false = true from h) (by decide)) (by simp only [sl_n, sl_r, sl_i, sl_l]; exact Nat.le_of_ble_eq_true rfl) ?_
  rw [show lv_args 0 [rv x0, .int x1, rv x2] = [(0, rv x0), (1, .int x1), (2, rv x2)] by simp only [la_n, la_r, la_i, la_l] <;> rfl]
  have hX0 : ((l, σ, σf, .inr (.inr (KW σ σf (some (.int r)), tableOf hhL_decimal))) : Xt).1 = l := rfl
  have hX1 : ((l, σ, σf, .inr (.inr (KW σ σf (some (.int r)), tableOf hhL_decimal))) : Xt).2.2.1 = σf := rfl
  have hX2 : ((l, σ, σf, .inr (.inr (KW σ σf (some (.int r)), tableOf hhL_decimal))) : Xt).2.2.2 = .inr (.inr (KW ((l, σ, σf, .inr (.inr (KW σ σf (some (.int r)), tableOf hhL_decimal))) : Xt).2.1 σf (some (.int r)), tableOf hhL_decimal)) := rfl
  generalize ((l, σ, σf, .inr (.inr (KW σ σf (some (.int r)), tableOf hhL_decimal))) : Xt) = X at hX0 hX1 hX2 ⊢
  subst hX0
  unfold fL_decimal at hf
  obtain ⟨_, h0, hf⟩ := ob hf
  obtain ⟨σ1, q, e1, hf⟩ := cb_el hf
  refine g_aload_n (j := 2) dL_decimal_0 rfl rfl ?_
  refine g_iconst (v := 0) dL_decimal_1 (by decide) ?_
  refine g_aload_n (j := 0) dL_decimal_2 rfl rfl ?_
  refine g_iload_n (j := 1) dL_decimal_3 rfl rfl ?_
  refine g_callT_i hX2 dL_decimal_4 (wX11_decimal _ hst e1) (okX11_decimal _ (by decide) (by decide)) (ckK_el h0) hc15 t_1762 t_1763 t_1764 rfl (Nat.le_trans (cat_le _) (Nat.le_of_ble_eq_true rfl)) rfl (fun v hv => ?_) (fun E hE => ?_)
  · subst hv
    obtain ⟨σ2, e2, hf⟩ := ob hf
    cases hf
    refine g_i2l dL_decimal_7 rfl ?_
    refine g_jst dL_decimal_8 e2 ?_
    refine g_goto (tgt := 15) dL_decimal_9 (by decide) ?_
    refine g_iconst (v := 0) dL_decimal_15 (by decide) ?_
    exact g_iretW dL_decimal_16 rfl hX2 hX1 rfl ⟨sz _, rfl, Nat.le_refl _⟩
  · subst hE
    dsimp only at hf
    by_cases h0 : E = "java/lang/IllegalArgumentException"
    · rw [if_pos h0] at hf
      cases hf
      subst h0
      refine ⟨[], ⟨0, 9, 12, 19⟩, [], "java/lang/IllegalArgumentException", 3, 1, rfl, (fun z h => by cases h), by decide, by decide, t_1292, t_665, (Or.inl ⟨3, dL_decimal_12, rfl, rfl⟩), by decide, fun z hz => ?_⟩
      refine g_iconst (v := 1) dL_decimal_13 (by decide) ?_
      exact g_iretW dL_decimal_14 rfl hX2 hX1 rfl ⟨z, rfl, hz⟩
    · rw [if_neg h0] at hf
      cases hf

def hhL_takeContinued : List (Nat × Nat × Nat × Nat) := [(0, 9, 12, 30)]
abbrev MtL_takeContinued : Mt := (cL_takeContinued, 4, "ExactlySaidLaw", some .int, 9, 267, false)
set_option maxRecDepth 100000 in
set_option maxHeartbeats 4000000 in
theorem wL_takeContinued (l : Launch) (hst : l.stackTraces = false) {σ σf : St} {x0 : Nat} {x1 : Int32} {x2 : Nat} {r : Int32} (hf : fL_takeContinued σ x0 x1 x2 = some (σf, r)) : ConW MtL_takeContinued yL_takeContinued hhL_takeContinued l σ [rv x0, .int x1, rv x2] σf (some (.int r)) := by
  refine ConW.of hst (by decide +kernel) rfl (fun h => absurd (show false = true from h) (by decide)) (by simp only [sl_n, sl_r, sl_i, sl_l]; exact Nat.le_of_ble_eq_true rfl) ?_
  rw [show lv_args 0 [rv x0, .int x1, rv x2] = [(0, rv x0), (1, .int x1), (2, rv x2)] by simp only [la_n, la_r, la_i, la_l] <;> rfl]
  have hX0 : ((l, σ, σf, .inr (.inr (KW σ σf (some (.int r)), tableOf hhL_takeContinued))) : Xt).1 = l := rfl
  have hX1 : ((l, σ, σf, .inr (.inr (KW σ σf (some (.int r)), tableOf hhL_takeContinued))) : Xt).2.2.1 = σf := rfl
  have hX2 : ((l, σ, σf, .inr (.inr (KW σ σf (some (.int r)), tableOf hhL_takeContinued))) : Xt).2.2.2 = .inr (.inr (KW ((l, σ, σf, .inr (.inr (KW σ σf (some (.int r)), tableOf hhL_takeContinued))) : Xt).2.1 σf (some (.int r)), tableOf hhL_takeContinued)) := rfl
  generalize ((l, σ, σf, .inr (.inr (KW σ σf (some (.int r)), tableOf hhL_takeContinued))) : Xt) = X at hX0 hX1 hX2 ⊢
  subst hX0
  unfold fL_takeContinued at hf
  obtain ⟨_, h0, hf⟩ := ob hf
  obtain ⟨σ1, q, e1, hf⟩ := cb_el hf
  refine g_aload_n (j := 2) dL_takeContinued_0 rfl rfl ?_
  refine g_iconst (v := 0) dL_takeContinued_1 (by decide) ?_
  refine g_aload_n (j := 0) dL_takeContinued_2 rfl rfl ?_
  refine g_iload_n (j := 1) dL_takeContinued_3 rfl rfl ?_
  refine g_callT_i hX2 dL_takeContinued_4 (wX11_takeContinued _ hst e1) (okX11_takeContinued _ (by decide) (by decide)) (ckK_el h0) hc15 t_1770 t_1771 t_1772 rfl (Nat.le_trans (cat_le _) (Nat.le_of_ble_eq_true rfl)) rfl (fun v hv => ?_) (fun E hE => ?_)
  · subst hv
    obtain ⟨σ2, e2, hf⟩ := ob hf
    cases hf
    refine g_i2l dL_takeContinued_7 rfl ?_
    refine g_jst dL_takeContinued_8 e2 ?_
    refine g_goto (tgt := 15) dL_takeContinued_9 (by decide) ?_
    refine g_iconst (v := 0) dL_takeContinued_15 (by decide) ?_
    exact g_iretW dL_takeContinued_16 rfl hX2 hX1 rfl ⟨sz _, rfl, Nat.le_refl _⟩
  · subst hE
    dsimp only at hf
    by_cases h0 : E = "java/lang/IndexOutOfBoundsException"
    · rw [if_pos h0] at hf
      cases hf
      subst h0
      refine ⟨[], ⟨0, 9, 12, 30⟩, [], "java/lang/IndexOutOfBoundsException", 3, 1, rfl, (fun z h => by cases h), by decide, by decide, t_1628, t_1637, (Or.inl ⟨3, dL_takeContinued_12, rfl, rfl⟩), by decide, fun z hz => ?_⟩
      refine g_iconst (v := 1) dL_takeContinued_13 (by decide) ?_
      exact g_iretW dL_takeContinued_14 rfl hX2 hX1 rfl ⟨z, rfl, hz⟩
    · rw [if_neg h0] at hf
      cases hf

def hhL_takeBest : List (Nat × Nat × Nat × Nat) := [(0, 9, 12, 19)]
abbrev MtL_takeBest : Mt := (cL_takeBest, 4, "ExactlySaidLaw", some .int, 9, 324, false)
set_option maxRecDepth 100000 in
set_option maxHeartbeats 4000000 in
theorem wL_takeBest (l : Launch) (hst : l.stackTraces = false) {σ σf : St} {x0 : Nat} {x1 : Int32} {x2 : Nat} {r : Int32} (hf : fL_takeBest σ x0 x1 x2 = some (σf, r)) : ConW MtL_takeBest yL_takeBest hhL_takeBest l σ [rv x0, .int x1, rv x2] σf (some (.int r)) := by
  refine ConW.of hst (by decide +kernel) rfl (fun h => absurd (show false = true from h) (by decide)) (by simp only [sl_n, sl_r, sl_i, sl_l]; exact Nat.le_of_ble_eq_true rfl) ?_
  rw [show lv_args 0 [rv x0, .int x1, rv x2] = [(0, rv x0), (1, .int x1), (2, rv x2)] by simp only [la_n, la_r, la_i, la_l] <;> rfl]
  have hX0 : ((l, σ, σf, .inr (.inr (KW σ σf (some (.int r)), tableOf hhL_takeBest))) : Xt).1 = l := rfl
  have hX1 : ((l, σ, σf, .inr (.inr (KW σ σf (some (.int r)), tableOf hhL_takeBest))) : Xt).2.2.1 = σf := rfl
  have hX2 : ((l, σ, σf, .inr (.inr (KW σ σf (some (.int r)), tableOf hhL_takeBest))) : Xt).2.2.2 = .inr (.inr (KW ((l, σ, σf, .inr (.inr (KW σ σf (some (.int r)), tableOf hhL_takeBest))) : Xt).2.1 σf (some (.int r)), tableOf hhL_takeBest)) := rfl
  generalize ((l, σ, σf, .inr (.inr (KW σ σf (some (.int r)), tableOf hhL_takeBest))) : Xt) = X at hX0 hX1 hX2 ⊢
  subst hX0
  unfold fL_takeBest at hf
  obtain ⟨_, h0, hf⟩ := ob hf
  obtain ⟨σ1, q, e1, hf⟩ := cb_el hf
  refine g_aload_n (j := 2) dL_takeBest_0 rfl rfl ?_
  refine g_iconst (v := 0) dL_takeBest_1 (by decide) ?_
  refine g_aload_n (j := 0) dL_takeBest_2 rfl rfl ?_
  refine g_iload_n (j := 1) dL_takeBest_3 rfl rfl ?_
  refine g_callT_i hX2 dL_takeBest_4 (wX11_takeBest _ hst e1) (okX11_takeBest _ (by decide) (by decide)) (ckK_el h0) hc15 t_1777 t_1778 t_1779 rfl (Nat.le_trans (cat_le _) (Nat.le_of_ble_eq_true rfl)) rfl (fun v hv => ?_) (fun E hE => ?_)
  · subst hv
    obtain ⟨σ2, e2, hf⟩ := ob hf
    cases hf
    refine g_i2l dL_takeBest_7 rfl ?_
    refine g_jst dL_takeBest_8 e2 ?_
    refine g_goto (tgt := 15) dL_takeBest_9 (by decide) ?_
    refine g_iconst (v := 0) dL_takeBest_15 (by decide) ?_
    exact g_iretW dL_takeBest_16 rfl hX2 hX1 rfl ⟨sz _, rfl, Nat.le_refl _⟩
  · subst hE
    dsimp only at hf
    by_cases h0 : E = "java/lang/IllegalArgumentException"
    · rw [if_pos h0] at hf
      cases hf
      subst h0
      refine ⟨[], ⟨0, 9, 12, 19⟩, [], "java/lang/IllegalArgumentException", 3, 1, rfl, (fun z h => by cases h), by decide, by decide, t_1292, t_665, (Or.inl ⟨3, dL_takeBest_12, rfl, rfl⟩), by decide, fun z hz => ?_⟩
      refine g_iconst (v := 1) dL_takeBest_13 (by decide) ?_
      exact g_iretW dL_takeBest_14 rfl hX2 hX1 rfl ⟨z, rfl, hz⟩
    · rw [if_neg h0] at hf
      cases hf

def hhL_takeUnit : List (Nat × Nat × Nat × Nat) := [(0, 9, 12, 30)]
abbrev MtL_takeUnit : Mt := (cL_takeUnit, 4, "ExactlySaidLaw", some .int, 9, 298, false)
set_option maxRecDepth 100000 in
set_option maxHeartbeats 4000000 in
theorem wL_takeUnit (l : Launch) (hst : l.stackTraces = false) {σ σf : St} {x0 : Nat} {x1 : Int32} {x2 : Nat} {r : Int32} (hf : fL_takeUnit σ x0 x1 x2 = some (σf, r)) : ConW MtL_takeUnit yL_takeUnit hhL_takeUnit l σ [rv x0, .int x1, rv x2] σf (some (.int r)) := by
  refine ConW.of hst (by decide +kernel) rfl (fun h => absurd (show false = true from h) (by decide)) (by simp only [sl_n, sl_r, sl_i, sl_l]; exact Nat.le_of_ble_eq_true rfl) ?_
  rw [show lv_args 0 [rv x0, .int x1, rv x2] = [(0, rv x0), (1, .int x1), (2, rv x2)] by simp only [la_n, la_r, la_i, la_l] <;> rfl]
  have hX0 : ((l, σ, σf, .inr (.inr (KW σ σf (some (.int r)), tableOf hhL_takeUnit))) : Xt).1 = l := rfl
  have hX1 : ((l, σ, σf, .inr (.inr (KW σ σf (some (.int r)), tableOf hhL_takeUnit))) : Xt).2.2.1 = σf := rfl
  have hX2 : ((l, σ, σf, .inr (.inr (KW σ σf (some (.int r)), tableOf hhL_takeUnit))) : Xt).2.2.2 = .inr (.inr (KW ((l, σ, σf, .inr (.inr (KW σ σf (some (.int r)), tableOf hhL_takeUnit))) : Xt).2.1 σf (some (.int r)), tableOf hhL_takeUnit)) := rfl
  generalize ((l, σ, σf, .inr (.inr (KW σ σf (some (.int r)), tableOf hhL_takeUnit))) : Xt) = X at hX0 hX1 hX2 ⊢
  subst hX0
  unfold fL_takeUnit at hf
  obtain ⟨_, h0, hf⟩ := ob hf
  obtain ⟨σ1, q, e1, hf⟩ := cb_el hf
  refine g_aload_n (j := 2) dL_takeUnit_0 rfl rfl ?_
  refine g_iconst (v := 0) dL_takeUnit_1 (by decide) ?_
  refine g_aload_n (j := 0) dL_takeUnit_2 rfl rfl ?_
  refine g_iload_n (j := 1) dL_takeUnit_3 rfl rfl ?_
  refine g_callT_i hX2 dL_takeUnit_4 (wX11_takeUnit _ hst e1) (okX11_takeUnit _ (by decide) (by decide)) (ckK_el h0) hc15 t_1792 t_1793 t_1794 rfl (Nat.le_trans (cat_le _) (Nat.le_of_ble_eq_true rfl)) rfl (fun v hv => ?_) (fun E hE => ?_)
  · subst hv
    obtain ⟨σ2, e2, hf⟩ := ob hf
    cases hf
    refine g_i2l dL_takeUnit_7 rfl ?_
    refine g_jst dL_takeUnit_8 e2 ?_
    refine g_goto (tgt := 15) dL_takeUnit_9 (by decide) ?_
    refine g_iconst (v := 0) dL_takeUnit_15 (by decide) ?_
    exact g_iretW dL_takeUnit_16 rfl hX2 hX1 rfl ⟨sz _, rfl, Nat.le_refl _⟩
  · subst hE
    dsimp only at hf
    by_cases h0 : E = "java/lang/IndexOutOfBoundsException"
    · rw [if_pos h0] at hf
      cases hf
      subst h0
      refine ⟨[], ⟨0, 9, 12, 30⟩, [], "java/lang/IndexOutOfBoundsException", 3, 1, rfl, (fun z h => by cases h), by decide, by decide, t_1628, t_1637, (Or.inl ⟨3, dL_takeUnit_12, rfl, rfl⟩), by decide, fun z hz => ?_⟩
      refine g_iconst (v := 1) dL_takeUnit_13 (by decide) ?_
      exact g_iretW dL_takeUnit_14 rfl hX2 hX1 rfl ⟨z, rfl, hz⟩
    · rw [if_neg h0] at hf
      cases hf

def hhL_put : List (Nat × Nat × Nat × Nat) := [(0, 9, 12, 19), (0, 9, 15, 13)]
abbrev MtL_put : Mt := (cL_put, 4, "ExactlySaidLaw", some .int, 9, 199, false)
set_option maxRecDepth 100000 in
set_option maxHeartbeats 4000000 in
theorem wL_put (l : Launch) (hst : l.stackTraces = false) {σ σf : St} {x0 : Nat} {x1 : Int32} {x2 : Nat} {r : Int32} (hf : fL_put σ x0 x1 x2 = some (σf, r)) : ConW MtL_put yL_put hhL_put l σ [rv x0, .int x1, rv x2] σf (some (.int r)) := by
  refine ConW.of hst (by decide +kernel) rfl (fun h => absurd (show false = true from h) (by decide)) (by simp only [sl_n, sl_r, sl_i, sl_l]; exact Nat.le_of_ble_eq_true rfl) ?_
  rw [show lv_args 0 [rv x0, .int x1, rv x2] = [(0, rv x0), (1, .int x1), (2, rv x2)] by simp only [la_n, la_r, la_i, la_l] <;> rfl]
  have hX0 : ((l, σ, σf, .inr (.inr (KW σ σf (some (.int r)), tableOf hhL_put))) : Xt).1 = l := rfl
  have hX1 : ((l, σ, σf, .inr (.inr (KW σ σf (some (.int r)), tableOf hhL_put))) : Xt).2.2.1 = σf := rfl
  have hX2 : ((l, σ, σf, .inr (.inr (KW σ σf (some (.int r)), tableOf hhL_put))) : Xt).2.2.2 = .inr (.inr (KW ((l, σ, σf, .inr (.inr (KW σ σf (some (.int r)), tableOf hhL_put))) : Xt).2.1 σf (some (.int r)), tableOf hhL_put)) := rfl
  generalize ((l, σ, σf, .inr (.inr (KW σ σf (some (.int r)), tableOf hhL_put))) : Xt) = X at hX0 hX1 hX2 ⊢
  subst hX0
  unfold fL_put at hf
  obtain ⟨_, h0, hf⟩ := ob hf
  obtain ⟨σ1, q, e1, hf⟩ := cb_el hf
  refine g_aload_n (j := 2) dL_put_0 rfl rfl ?_
  refine g_iconst (v := 0) dL_put_1 (by decide) ?_
  refine g_aload_n (j := 0) dL_put_2 rfl rfl ?_
  refine g_iload_n (j := 1) dL_put_3 rfl rfl ?_
  refine g_callT_i hX2 dL_put_4 (wX11_put _ hst e1) (okX11_put _ (by decide) (by decide)) (ckK_el h0) hc15 t_1799 t_1800 t_1801 rfl (Nat.le_trans (cat_le _) (Nat.le_of_ble_eq_true rfl)) rfl (fun v hv => ?_) (fun E hE => ?_)
  · subst hv
    obtain ⟨σ2, e2, hf⟩ := ob hf
    cases hf
    refine g_i2l dL_put_7 rfl ?_
    refine g_jst dL_put_8 e2 ?_
    refine g_goto (tgt := 18) dL_put_9 (by decide) ?_
    refine g_iconst (v := 0) dL_put_18 (by decide) ?_
    exact g_iretW dL_put_19 rfl hX2 hX1 rfl ⟨sz _, rfl, Nat.le_refl _⟩
  · subst hE
    dsimp only at hf
    by_cases h0 : E = "java/lang/IllegalArgumentException"
    · rw [if_pos h0] at hf
      cases hf
      subst h0
      refine ⟨[], ⟨0, 9, 12, 19⟩, [⟨0, 9, 15, 13⟩], "java/lang/IllegalArgumentException", 3, 1, rfl, (fun z h => by cases h), by decide, by decide, t_1292, t_665, (Or.inl ⟨3, dL_put_12, rfl, rfl⟩), by decide, fun z hz => ?_⟩
      refine g_iconst (v := 1) dL_put_13 (by decide) ?_
      exact g_iretW dL_put_14 rfl hX2 hX1 rfl ⟨z, rfl, hz⟩
    · rw [if_neg h0] at hf
      by_cases h1 : E = "java/lang/IllegalStateException"
      · rw [if_pos h1] at hf
        cases hf
        subst h1
        refine ⟨[⟨0, 9, 12, 19⟩], ⟨0, 9, 15, 13⟩, [], "java/lang/IllegalStateException", 3, 1, rfl, (fun z h => by
          rcases List.mem_cons.mp h with rfl | h
          · exact ⟨by decide, "java/lang/IllegalArgumentException", t_1292, by decide +kernel⟩
          cases h), by decide, by decide, t_1256, t_1266, (Or.inl ⟨3, dL_put_15, rfl, rfl⟩), by decide, fun z hz => ?_⟩
        refine g_iconst (v := 2) dL_put_16 (by decide) ?_
        exact g_iretW dL_put_17 rfl hX2 hX1 rfl ⟨z, rfl, hz⟩
      · rw [if_neg h1] at hf
        cases hf

def hhL_out : List (Nat × Nat × Nat × Nat) := [(0, 9, 12, 19), (0, 9, 15, 56)]
abbrev MtL_out : Mt := (cL_out, 4, "ExactlySaidLaw", some .int, 9, 200, false)
set_option maxRecDepth 100000 in
set_option maxHeartbeats 4000000 in
theorem wL_out (l : Launch) (hst : l.stackTraces = false) {σ σf : St} {x0 : Nat} {x1 : Int32} {x2 : Nat} {r : Int32} (hf : fL_out σ x0 x1 x2 = some (σf, r)) : ConW MtL_out yL_out hhL_out l σ [rv x0, .int x1, rv x2] σf (some (.int r)) := by
  refine ConW.of hst (by decide +kernel) rfl (fun h => absurd (show false = true from h) (by decide)) (by simp only [sl_n, sl_r, sl_i, sl_l]; exact Nat.le_of_ble_eq_true rfl) ?_
  rw [show lv_args 0 [rv x0, .int x1, rv x2] = [(0, rv x0), (1, .int x1), (2, rv x2)] by simp only [la_n, la_r, la_i, la_l] <;> rfl]
  have hX0 : ((l, σ, σf, .inr (.inr (KW σ σf (some (.int r)), tableOf hhL_out))) : Xt).1 = l := rfl
  have hX1 : ((l, σ, σf, .inr (.inr (KW σ σf (some (.int r)), tableOf hhL_out))) : Xt).2.2.1 = σf := rfl
  have hX2 : ((l, σ, σf, .inr (.inr (KW σ σf (some (.int r)), tableOf hhL_out))) : Xt).2.2.2 = .inr (.inr (KW ((l, σ, σf, .inr (.inr (KW σ σf (some (.int r)), tableOf hhL_out))) : Xt).2.1 σf (some (.int r)), tableOf hhL_out)) := rfl
  generalize ((l, σ, σf, .inr (.inr (KW σ σf (some (.int r)), tableOf hhL_out))) : Xt) = X at hX0 hX1 hX2 ⊢
  subst hX0
  unfold fL_out at hf
  obtain ⟨_, h0, hf⟩ := ob hf
  obtain ⟨σ1, q, e1, hf⟩ := cb_el hf
  refine g_aload_n (j := 2) dL_out_0 rfl rfl ?_
  refine g_iconst (v := 0) dL_out_1 (by decide) ?_
  refine g_aload_n (j := 0) dL_out_2 rfl rfl ?_
  refine g_iload_n (j := 1) dL_out_3 rfl rfl ?_
  refine g_callT_i hX2 dL_out_4 (wX11_out _ hst e1) (okX11_out _ (by decide) (by decide)) (ckK_el h0) hc15 t_1832 t_1833 t_1834 rfl (Nat.le_trans (cat_le _) (Nat.le_of_ble_eq_true rfl)) rfl (fun v hv => ?_) (fun E hE => ?_)
  · subst hv
    obtain ⟨σ2, e2, hf⟩ := ob hf
    cases hf
    refine g_i2l dL_out_7 rfl ?_
    refine g_jst dL_out_8 e2 ?_
    refine g_goto (tgt := 18) dL_out_9 (by decide) ?_
    refine g_iconst (v := 0) dL_out_18 (by decide) ?_
    exact g_iretW dL_out_19 rfl hX2 hX1 rfl ⟨sz _, rfl, Nat.le_refl _⟩
  · subst hE
    dsimp only at hf
    by_cases h0 : E = "java/lang/IllegalArgumentException"
    · rw [if_pos h0] at hf
      cases hf
      subst h0
      refine ⟨[], ⟨0, 9, 12, 19⟩, [⟨0, 9, 15, 56⟩], "java/lang/IllegalArgumentException", 3, 1, rfl, (fun z h => by cases h), by decide, by decide, t_1292, t_665, (Or.inl ⟨3, dL_out_12, rfl, rfl⟩), by decide, fun z hz => ?_⟩
      refine g_iconst (v := 1) dL_out_13 (by decide) ?_
      exact g_iretW dL_out_14 rfl hX2 hX1 rfl ⟨z, rfl, hz⟩
    · rw [if_neg h0] at hf
      by_cases h1 : E = "java/util/NoSuchElementException"
      · rw [if_pos h1] at hf
        cases hf
        subst h1
        refine ⟨[⟨0, 9, 12, 19⟩], ⟨0, 9, 15, 56⟩, [], "java/util/NoSuchElementException", 3, 1, rfl, (fun z h => by
          rcases List.mem_cons.mp h with rfl | h
          · exact ⟨by decide, "java/lang/IllegalArgumentException", t_1292, by decide +kernel⟩
          cases h), by decide, by decide, t_1700, t_1707, (Or.inl ⟨3, dL_out_15, rfl, rfl⟩), by decide, fun z hz => ?_⟩
        refine g_iconst (v := 2) dL_out_16 (by decide) ?_
        exact g_iretW dL_out_17 rfl hX2 hX1 rfl ⟨z, rfl, hz⟩
      · rw [if_neg h1] at hf
        cases hf

def hhL_empty : List (Nat × Nat × Nat × Nat) := [(0, 9, 12, 19)]
abbrev MtL_empty : Mt := (cL_empty, 4, "ExactlySaidLaw", some .int, 9, 182, false)
set_option maxRecDepth 100000 in
set_option maxHeartbeats 4000000 in
theorem wL_empty (l : Launch) (hst : l.stackTraces = false) {σ σf : St} {x0 : Nat} {x1 : Int32} {x2 : Nat} {r : Int32} (hf : fL_empty σ x0 x1 x2 = some (σf, r)) : ConW MtL_empty yL_empty hhL_empty l σ [rv x0, .int x1, rv x2] σf (some (.int r)) := by
  refine ConW.of hst (by decide +kernel) rfl (fun h => absurd (show false = true from h) (by decide)) (by simp only [sl_n, sl_r, sl_i, sl_l]; exact Nat.le_of_ble_eq_true rfl) ?_
  rw [show lv_args 0 [rv x0, .int x1, rv x2] = [(0, rv x0), (1, .int x1), (2, rv x2)] by simp only [la_n, la_r, la_i, la_l] <;> rfl]
  have hX0 : ((l, σ, σf, .inr (.inr (KW σ σf (some (.int r)), tableOf hhL_empty))) : Xt).1 = l := rfl
  have hX1 : ((l, σ, σf, .inr (.inr (KW σ σf (some (.int r)), tableOf hhL_empty))) : Xt).2.2.1 = σf := rfl
  have hX2 : ((l, σ, σf, .inr (.inr (KW σ σf (some (.int r)), tableOf hhL_empty))) : Xt).2.2.2 = .inr (.inr (KW ((l, σ, σf, .inr (.inr (KW σ σf (some (.int r)), tableOf hhL_empty))) : Xt).2.1 σf (some (.int r)), tableOf hhL_empty)) := rfl
  generalize ((l, σ, σf, .inr (.inr (KW σ σf (some (.int r)), tableOf hhL_empty))) : Xt) = X at hX0 hX1 hX2 ⊢
  subst hX0
  unfold fL_empty at hf
  obtain ⟨_, h0, hf⟩ := ob hf
  obtain ⟨σ1, q, e1, hf⟩ := cb_el hf
  refine g_aload_n (j := 2) dL_empty_0 rfl rfl ?_
  refine g_iconst (v := 0) dL_empty_1 (by decide) ?_
  refine g_aload_n (j := 0) dL_empty_2 rfl rfl ?_
  refine g_iload_n (j := 1) dL_empty_3 rfl rfl ?_
  refine g_callT_i hX2 dL_empty_4 (wX11_empty _ hst e1) (okX11_empty _ (by decide) (by decide)) (ckK_el h0) hc15 t_1848 t_1849 t_1850 rfl (Nat.le_trans (cat_le _) (Nat.le_of_ble_eq_true rfl)) rfl (fun v hv => ?_) (fun E hE => ?_)
  · subst hv
    obtain ⟨σ2, e2, hf⟩ := ob hf
    cases hf
    refine g_i2l dL_empty_7 rfl ?_
    refine g_jst dL_empty_8 e2 ?_
    refine g_goto (tgt := 15) dL_empty_9 (by decide) ?_
    refine g_iconst (v := 0) dL_empty_15 (by decide) ?_
    exact g_iretW dL_empty_16 rfl hX2 hX1 rfl ⟨sz _, rfl, Nat.le_refl _⟩
  · subst hE
    dsimp only at hf
    by_cases h0 : E = "java/lang/IllegalArgumentException"
    · rw [if_pos h0] at hf
      cases hf
      subst h0
      refine ⟨[], ⟨0, 9, 12, 19⟩, [], "java/lang/IllegalArgumentException", 3, 1, rfl, (fun z h => by cases h), by decide, by decide, t_1292, t_665, (Or.inl ⟨3, dL_empty_12, rfl, rfl⟩), by decide, fun z hz => ?_⟩
      refine g_iconst (v := 1) dL_empty_13 (by decide) ?_
      exact g_iretW dL_empty_14 rfl hX2 hX1 rfl ⟨z, rfl, hz⟩
    · rw [if_neg h0] at hf
      cases hf

def hhL_count : List (Nat × Nat × Nat × Nat) := [(0, 10, 13, 19)]
abbrev MtL_count : Mt := (cL_count, 5, "ExactlySaidLaw", some .int, 9, 199, false)
set_option maxRecDepth 100000 in
set_option maxHeartbeats 4000000 in
theorem wL_count (l : Launch) (hst : l.stackTraces = false) {σ σf : St} {x0 : Nat} {x1 : Int32} {x2 : Int32} {x3 : Nat} {r : Int32} (hf : fL_count σ x0 x1 x2 x3 = some (σf, r)) : ConW MtL_count yL_count hhL_count l σ [rv x0, .int x1, .int x2, rv x3] σf (some (.int r)) := by
  refine ConW.of hst (by decide +kernel) rfl (fun h => absurd (show false = true from h) (by decide)) (by simp only [sl_n, sl_r, sl_i, sl_l]; exact Nat.le_of_ble_eq_true rfl) ?_
  rw [show lv_args 0 [rv x0, .int x1, .int x2, rv x3] = [(0, rv x0), (1, .int x1), (2, .int x2), (3, rv x3)] by simp only [la_n, la_r, la_i, la_l] <;> rfl]
  have hX0 : ((l, σ, σf, .inr (.inr (KW σ σf (some (.int r)), tableOf hhL_count))) : Xt).1 = l := rfl
  have hX1 : ((l, σ, σf, .inr (.inr (KW σ σf (some (.int r)), tableOf hhL_count))) : Xt).2.2.1 = σf := rfl
  have hX2 : ((l, σ, σf, .inr (.inr (KW σ σf (some (.int r)), tableOf hhL_count))) : Xt).2.2.2 = .inr (.inr (KW ((l, σ, σf, .inr (.inr (KW σ σf (some (.int r)), tableOf hhL_count))) : Xt).2.1 σf (some (.int r)), tableOf hhL_count)) := rfl
  generalize ((l, σ, σf, .inr (.inr (KW σ σf (some (.int r)), tableOf hhL_count))) : Xt) = X at hX0 hX1 hX2 ⊢
  subst hX0
  unfold fL_count at hf
  obtain ⟨_, h0, hf⟩ := ob hf
  obtain ⟨σ1, q, e1, hf⟩ := cb_el hf
  refine g_aload_n (j := 3) dL_count_0 rfl rfl ?_
  refine g_iconst (v := 0) dL_count_1 (by decide) ?_
  refine g_aload_n (j := 0) dL_count_2 rfl rfl ?_
  refine g_iload_n (j := 1) dL_count_3 rfl rfl ?_
  refine g_iload_n (j := 2) dL_count_4 rfl rfl ?_
  refine g_callT_i hX2 dL_count_5 (wX11_count _ hst e1) (okX11_count _ (by decide) (by decide)) (ckK_el h0) hc15 t_1857 t_1858 t_1859 rfl (Nat.le_trans (cat_le _) (Nat.le_of_ble_eq_true rfl)) rfl (fun v hv => ?_) (fun E hE => ?_)
  · subst hv
    obtain ⟨σ2, e2, hf⟩ := ob hf
    cases hf
    refine g_i2l dL_count_8 rfl ?_
    refine g_jst dL_count_9 e2 ?_
    refine g_goto (tgt := 17) dL_count_10 (by decide) ?_
    refine g_iconst (v := 0) dL_count_17 (by decide) ?_
    exact g_iretW dL_count_18 rfl hX2 hX1 rfl ⟨sz _, rfl, Nat.le_refl _⟩
  · subst hE
    dsimp only at hf
    by_cases h0 : E = "java/lang/IllegalArgumentException"
    · rw [if_pos h0] at hf
      cases hf
      subst h0
      refine ⟨[], ⟨0, 10, 13, 19⟩, [], "java/lang/IllegalArgumentException", 4, 2, rfl, (fun z h => by cases h), by decide, by decide, t_1292, t_665, (Or.inr ⟨dL_count_13, rfl⟩), by decide, fun z hz => ?_⟩
      refine g_iconst (v := 1) dL_count_15 (by decide) ?_
      exact g_iretW dL_count_16 rfl hX2 hX1 rfl ⟨z, rfl, hz⟩
    · rw [if_neg h0] at hf
      cases hf

def hhL_takeLeast : List (Nat × Nat × Nat × Nat) := [(0, 10, 13, 19), (0, 10, 17, 30)]
abbrev MtL_takeLeast : Mt := (cL_takeLeast, 5, "ExactlySaidLaw", some .int, 9, 183, false)
set_option maxRecDepth 100000 in
set_option maxHeartbeats 4000000 in
theorem wL_takeLeast (l : Launch) (hst : l.stackTraces = false) {σ σf : St} {x0 : Nat} {x1 : Int32} {x2 : Int32} {x3 : Nat} {r : Int32} (hf : fL_takeLeast σ x0 x1 x2 x3 = some (σf, r)) : ConW MtL_takeLeast yL_takeLeast hhL_takeLeast l σ [rv x0, .int x1, .int x2, rv x3] σf (some (.int r)) := by
  refine ConW.of hst (by decide +kernel) rfl (fun h => absurd (show false = true from h) (by decide)) (by simp only [sl_n, sl_r, sl_i, sl_l]; exact Nat.le_of_ble_eq_true rfl) ?_
  rw [show lv_args 0 [rv x0, .int x1, .int x2, rv x3] = [(0, rv x0), (1, .int x1), (2, .int x2), (3, rv x3)] by simp only [la_n, la_r, la_i, la_l] <;> rfl]
  have hX0 : ((l, σ, σf, .inr (.inr (KW σ σf (some (.int r)), tableOf hhL_takeLeast))) : Xt).1 = l := rfl
  have hX1 : ((l, σ, σf, .inr (.inr (KW σ σf (some (.int r)), tableOf hhL_takeLeast))) : Xt).2.2.1 = σf := rfl
  have hX2 : ((l, σ, σf, .inr (.inr (KW σ σf (some (.int r)), tableOf hhL_takeLeast))) : Xt).2.2.2 = .inr (.inr (KW ((l, σ, σf, .inr (.inr (KW σ σf (some (.int r)), tableOf hhL_takeLeast))) : Xt).2.1 σf (some (.int r)), tableOf hhL_takeLeast)) := rfl
  generalize ((l, σ, σf, .inr (.inr (KW σ σf (some (.int r)), tableOf hhL_takeLeast))) : Xt) = X at hX0 hX1 hX2 ⊢
  subst hX0
  unfold fL_takeLeast at hf
  obtain ⟨_, h0, hf⟩ := ob hf
  obtain ⟨σ1, q, e1, hf⟩ := cb_el hf
  refine g_aload_n (j := 3) dL_takeLeast_0 rfl rfl ?_
  refine g_iconst (v := 0) dL_takeLeast_1 (by decide) ?_
  refine g_aload_n (j := 0) dL_takeLeast_2 rfl rfl ?_
  refine g_iload_n (j := 1) dL_takeLeast_3 rfl rfl ?_
  refine g_iload_n (j := 2) dL_takeLeast_4 rfl rfl ?_
  refine g_callT_i hX2 dL_takeLeast_5 (wX11_takeLeast _ hst e1) (okX11_takeLeast _ (by decide) (by decide)) (ckK_el h0) hc15 t_1864 t_1865 t_1866 rfl (Nat.le_trans (cat_le _) (Nat.le_of_ble_eq_true rfl)) rfl (fun v hv => ?_) (fun E hE => ?_)
  · subst hv
    obtain ⟨σ2, e2, hf⟩ := ob hf
    cases hf
    refine g_i2l dL_takeLeast_8 rfl ?_
    refine g_jst dL_takeLeast_9 e2 ?_
    refine g_goto (tgt := 21) dL_takeLeast_10 (by decide) ?_
    refine g_iconst (v := 0) dL_takeLeast_21 (by decide) ?_
    exact g_iretW dL_takeLeast_22 rfl hX2 hX1 rfl ⟨sz _, rfl, Nat.le_refl _⟩
  · subst hE
    dsimp only at hf
    by_cases h0 : E = "java/lang/IllegalArgumentException"
    · rw [if_pos h0] at hf
      cases hf
      subst h0
      refine ⟨[], ⟨0, 10, 13, 19⟩, [⟨0, 10, 17, 30⟩], "java/lang/IllegalArgumentException", 4, 2, rfl, (fun z h => by cases h), by decide, by decide, t_1292, t_665, (Or.inr ⟨dL_takeLeast_13, rfl⟩), by decide, fun z hz => ?_⟩
      refine g_iconst (v := 1) dL_takeLeast_15 (by decide) ?_
      exact g_iretW dL_takeLeast_16 rfl hX2 hX1 rfl ⟨z, rfl, hz⟩
    · rw [if_neg h0] at hf
      by_cases h1 : E = "java/lang/IndexOutOfBoundsException"
      · rw [if_pos h1] at hf
        cases hf
        subst h1
        refine ⟨[⟨0, 10, 13, 19⟩], ⟨0, 10, 17, 30⟩, [], "java/lang/IndexOutOfBoundsException", 4, 2, rfl, (fun z h => by
          rcases List.mem_cons.mp h with rfl | h
          · exact ⟨by decide, "java/lang/IllegalArgumentException", t_1292, by decide +kernel⟩
          cases h), by decide, by decide, t_1628, t_1637, (Or.inr ⟨dL_takeLeast_17, rfl⟩), by decide, fun z hz => ?_⟩
        refine g_iconst (v := 2) dL_takeLeast_19 (by decide) ?_
        exact g_iretW dL_takeLeast_20 rfl hX2 hX1 rfl ⟨z, rfl, hz⟩
      · rw [if_neg h1] at hf
        cases hf

def hhL_takeNext : List (Nat × Nat × Nat × Nat) := [(0, 9, 12, 19), (0, 9, 15, 56)]
abbrev MtL_takeNext : Mt := (cL_takeNext, 4, "ExactlySaidLaw", some .int, 9, 200, false)
set_option maxRecDepth 100000 in
set_option maxHeartbeats 4000000 in
theorem wL_takeNext (l : Launch) (hst : l.stackTraces = false) {σ σf : St} {x0 : Nat} {x1 : Int32} {x2 : Nat} {r : Int32} (hf : fL_takeNext σ x0 x1 x2 = some (σf, r)) : ConW MtL_takeNext yL_takeNext hhL_takeNext l σ [rv x0, .int x1, rv x2] σf (some (.int r)) := by
  refine ConW.of hst (by decide +kernel) rfl (fun h => absurd (show false = true from h) (by decide)) (by simp only [sl_n, sl_r, sl_i, sl_l]; exact Nat.le_of_ble_eq_true rfl) ?_
  rw [show lv_args 0 [rv x0, .int x1, rv x2] = [(0, rv x0), (1, .int x1), (2, rv x2)] by simp only [la_n, la_r, la_i, la_l] <;> rfl]
  have hX0 : ((l, σ, σf, .inr (.inr (KW σ σf (some (.int r)), tableOf hhL_takeNext))) : Xt).1 = l := rfl
  have hX1 : ((l, σ, σf, .inr (.inr (KW σ σf (some (.int r)), tableOf hhL_takeNext))) : Xt).2.2.1 = σf := rfl
  have hX2 : ((l, σ, σf, .inr (.inr (KW σ σf (some (.int r)), tableOf hhL_takeNext))) : Xt).2.2.2 = .inr (.inr (KW ((l, σ, σf, .inr (.inr (KW σ σf (some (.int r)), tableOf hhL_takeNext))) : Xt).2.1 σf (some (.int r)), tableOf hhL_takeNext)) := rfl
  generalize ((l, σ, σf, .inr (.inr (KW σ σf (some (.int r)), tableOf hhL_takeNext))) : Xt) = X at hX0 hX1 hX2 ⊢
  subst hX0
  unfold fL_takeNext at hf
  obtain ⟨_, h0, hf⟩ := ob hf
  obtain ⟨σ1, q, e1, hf⟩ := cb_el hf
  refine g_aload_n (j := 2) dL_takeNext_0 rfl rfl ?_
  refine g_iconst (v := 0) dL_takeNext_1 (by decide) ?_
  refine g_aload_n (j := 0) dL_takeNext_2 rfl rfl ?_
  refine g_iload_n (j := 1) dL_takeNext_3 rfl rfl ?_
  refine g_callT_i hX2 dL_takeNext_4 (wX11_takeNext _ hst e1) (okX11_takeNext _ (by decide) (by decide)) (ckK_el h0) hc15 t_1871 t_1872 t_1873 rfl (Nat.le_trans (cat_le _) (Nat.le_of_ble_eq_true rfl)) rfl (fun v hv => ?_) (fun E hE => ?_)
  · subst hv
    obtain ⟨σ2, e2, hf⟩ := ob hf
    cases hf
    refine g_i2l dL_takeNext_7 rfl ?_
    refine g_jst dL_takeNext_8 e2 ?_
    refine g_goto (tgt := 18) dL_takeNext_9 (by decide) ?_
    refine g_iconst (v := 0) dL_takeNext_18 (by decide) ?_
    exact g_iretW dL_takeNext_19 rfl hX2 hX1 rfl ⟨sz _, rfl, Nat.le_refl _⟩
  · subst hE
    dsimp only at hf
    by_cases h0 : E = "java/lang/IllegalArgumentException"
    · rw [if_pos h0] at hf
      cases hf
      subst h0
      refine ⟨[], ⟨0, 9, 12, 19⟩, [⟨0, 9, 15, 56⟩], "java/lang/IllegalArgumentException", 3, 1, rfl, (fun z h => by cases h), by decide, by decide, t_1292, t_665, (Or.inl ⟨3, dL_takeNext_12, rfl, rfl⟩), by decide, fun z hz => ?_⟩
      refine g_iconst (v := 1) dL_takeNext_13 (by decide) ?_
      exact g_iretW dL_takeNext_14 rfl hX2 hX1 rfl ⟨z, rfl, hz⟩
    · rw [if_neg h0] at hf
      by_cases h1 : E = "java/util/NoSuchElementException"
      · rw [if_pos h1] at hf
        cases hf
        subst h1
        refine ⟨[⟨0, 9, 12, 19⟩], ⟨0, 9, 15, 56⟩, [], "java/util/NoSuchElementException", 3, 1, rfl, (fun z h => by
          rcases List.mem_cons.mp h with rfl | h
          · exact ⟨by decide, "java/lang/IllegalArgumentException", t_1292, by decide +kernel⟩
          cases h), by decide, by decide, t_1700, t_1707, (Or.inl ⟨3, dL_takeNext_15, rfl, rfl⟩), by decide, fun z hz => ?_⟩
        refine g_iconst (v := 2) dL_takeNext_16 (by decide) ?_
        exact g_iretW dL_takeNext_17 rfl hX2 hX1 rfl ⟨z, rfl, hz⟩
      · rw [if_neg h1] at hf
        cases hf

def hhL_takeAll : List (Nat × Nat × Nat × Nat) := [(0, 10, 13, 19), (0, 10, 17, 56), (0, 10, 21, 21)]
abbrev MtL_takeAll : Mt := (cL_takeAll, 5, "ExactlySaidLaw", some .int, 9, 322, false)
set_option maxRecDepth 100000 in
set_option maxHeartbeats 4000000 in
theorem wL_takeAll (l : Launch) (hst : l.stackTraces = false) {σ σf : St} {x0 : Nat} {x1 : Int32} {x2 : Int32} {x3 : Nat} {r : Int32} (hf : fL_takeAll σ x0 x1 x2 x3 = some (σf, r)) : ConW MtL_takeAll yL_takeAll hhL_takeAll l σ [rv x0, .int x1, .int x2, rv x3] σf (some (.int r)) := by
  refine ConW.of hst (by decide +kernel) rfl (fun h => absurd (show false = true from h) (by decide)) (by simp only [sl_n, sl_r, sl_i, sl_l]; exact Nat.le_of_ble_eq_true rfl) ?_
  rw [show lv_args 0 [rv x0, .int x1, .int x2, rv x3] = [(0, rv x0), (1, .int x1), (2, .int x2), (3, rv x3)] by simp only [la_n, la_r, la_i, la_l] <;> rfl]
  have hX0 : ((l, σ, σf, .inr (.inr (KW σ σf (some (.int r)), tableOf hhL_takeAll))) : Xt).1 = l := rfl
  have hX1 : ((l, σ, σf, .inr (.inr (KW σ σf (some (.int r)), tableOf hhL_takeAll))) : Xt).2.2.1 = σf := rfl
  have hX2 : ((l, σ, σf, .inr (.inr (KW σ σf (some (.int r)), tableOf hhL_takeAll))) : Xt).2.2.2 = .inr (.inr (KW ((l, σ, σf, .inr (.inr (KW σ σf (some (.int r)), tableOf hhL_takeAll))) : Xt).2.1 σf (some (.int r)), tableOf hhL_takeAll)) := rfl
  generalize ((l, σ, σf, .inr (.inr (KW σ σf (some (.int r)), tableOf hhL_takeAll))) : Xt) = X at hX0 hX1 hX2 ⊢
  subst hX0
  unfold fL_takeAll at hf
  obtain ⟨_, h0, hf⟩ := ob hf
  obtain ⟨σ1, q, e1, hf⟩ := cb_el hf
  refine g_aload_n (j := 3) dL_takeAll_0 rfl rfl ?_
  refine g_iconst (v := 0) dL_takeAll_1 (by decide) ?_
  refine g_aload_n (j := 0) dL_takeAll_2 rfl rfl ?_
  refine g_iload_n (j := 1) dL_takeAll_3 rfl rfl ?_
  refine g_iload_n (j := 2) dL_takeAll_4 rfl rfl ?_
  refine g_callT_i hX2 dL_takeAll_5 (wX11_takeAll _ hst e1) (okX11_takeAll _ (by decide) (by decide)) (ckK_el h0) hc15 t_1878 t_1879 t_1880 rfl (Nat.le_trans (cat_le _) (Nat.le_of_ble_eq_true rfl)) rfl (fun v hv => ?_) (fun E hE => ?_)
  · subst hv
    obtain ⟨σ2, e2, hf⟩ := ob hf
    cases hf
    refine g_i2l dL_takeAll_8 rfl ?_
    refine g_jst dL_takeAll_9 e2 ?_
    refine g_goto (tgt := 25) dL_takeAll_10 (by decide) ?_
    refine g_iconst (v := 0) dL_takeAll_25 (by decide) ?_
    exact g_iretW dL_takeAll_26 rfl hX2 hX1 rfl ⟨sz _, rfl, Nat.le_refl _⟩
  · subst hE
    dsimp only at hf
    by_cases h0 : E = "java/lang/IllegalArgumentException"
    · rw [if_pos h0] at hf
      cases hf
      subst h0
      refine ⟨[], ⟨0, 10, 13, 19⟩, [⟨0, 10, 17, 56⟩, ⟨0, 10, 21, 21⟩], "java/lang/IllegalArgumentException", 4, 2, rfl, (fun z h => by cases h), by decide, by decide, t_1292, t_665, (Or.inr ⟨dL_takeAll_13, rfl⟩), by decide, fun z hz => ?_⟩
      refine g_iconst (v := 1) dL_takeAll_15 (by decide) ?_
      exact g_iretW dL_takeAll_16 rfl hX2 hX1 rfl ⟨z, rfl, hz⟩
    · rw [if_neg h0] at hf
      by_cases h1 : E = "java/util/NoSuchElementException"
      · rw [if_pos h1] at hf
        cases hf
        subst h1
        refine ⟨[⟨0, 10, 13, 19⟩], ⟨0, 10, 17, 56⟩, [⟨0, 10, 21, 21⟩], "java/util/NoSuchElementException", 4, 2, rfl, (fun z h => by
          rcases List.mem_cons.mp h with rfl | h
          · exact ⟨by decide, "java/lang/IllegalArgumentException", t_1292, by decide +kernel⟩
          cases h), by decide, by decide, t_1700, t_1707, (Or.inr ⟨dL_takeAll_17, rfl⟩), by decide, fun z hz => ?_⟩
        refine g_iconst (v := 2) dL_takeAll_19 (by decide) ?_
        exact g_iretW dL_takeAll_20 rfl hX2 hX1 rfl ⟨z, rfl, hz⟩
      · rw [if_neg h1] at hf
        by_cases h2 : E = "java/lang/ArithmeticException"
        · rw [if_pos h2] at hf
          cases hf
          subst h2
          refine ⟨[⟨0, 10, 13, 19⟩, ⟨0, 10, 17, 56⟩], ⟨0, 10, 21, 21⟩, [], "java/lang/ArithmeticException", 4, 2, rfl, (fun z h => by
            rcases List.mem_cons.mp h with rfl | h
            · exact ⟨by decide, "java/lang/IllegalArgumentException", t_1292, by decide +kernel⟩
            rcases List.mem_cons.mp h with rfl | h
            · exact ⟨by decide, "java/util/NoSuchElementException", t_1700, by decide +kernel⟩
            cases h), by decide, by decide, t_1293, t_1305, (Or.inr ⟨dL_takeAll_21, rfl⟩), by decide, fun z hz => ?_⟩
          refine g_iconst (v := 3) dL_takeAll_23 (by decide) ?_
          exact g_iretW dL_takeAll_24 rfl hX2 hX1 rfl ⟨z, rfl, hz⟩
        · rw [if_neg h2] at hf
          cases hf

