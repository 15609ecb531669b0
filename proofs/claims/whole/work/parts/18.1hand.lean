/-! by hand: String.checkIndex, whose exception's maker is a static that is only known to be a reference -/
section RQ
variable {M : Mt} {X : Xt} {σ : St} {pc : Nat} {L : List (Nat × Value)} {st : List Value}
theorem g_getsF {idx : Nat} (hd : decode M.1 pc = .ok (.getstatic idx, 3)) (hl : Cond.fieldLink M.2.2.1 idx "jdk/internal/util/Preconditions" "SIOOBE_FORMATTER" "Ljava/util/function/BiFunction;" ∈ TB) (kk : ∀ v : Value, v.category = 1 → G M X σ (pc + 3) L (v :: st)) : G M X σ pc L st := by
  refine ⟨(kk .null rfl).1, fun p e R s m args below meth c Q D hC H locs k n ls a1 a2 a3 a4 a5 a6 => ?_⟩
  have fin : ∀ v : Value, v.category = 1 → va_Z "jdk/internal/util/Preconditions" "SIOOBE_FORMATTER" "Ljava/util/function/BiFunction;" v (Fr σ) s H → W p X.1 e R s m args below meth c H locs k n Q (F0 m pc ls st) := by
    intro v hv hZ
    obtain ⟨cf, kf, fi, f, a, cell, h1, h2, h3, h4, h5, h6, h7, h8⟩ := hZ
    exact W.gets hC.1 hC.2.1 hC.2.2.2.1 (hC.2.2.2.2.1 _ hl) h1 h2 h3 h4 h5 (fun e => by rw [e] at h6; cases h6) h7 rfl hd ((kk v hv).2 p e R s m args below meth c Q D hC H locs k n ls a1 a2 a3 a4 a5 a6)
  rcases a1.2.2.2.2.2.2.2.2.2.1 with h | ⟨t, h⟩
  · exact fin _ rfl h
  · exact fin _ rfl h
end RQ
abbrev MtJ3_checkIndex : Mt := (cJ3_checkIndex_8e157, 3, "jdk/internal/util/Preconditions", some .int, 1, 84, false)
theorem wJ3_checkIndex (l : Launch) {σ : St} {i n : Int32} {v : Value} (hv : v.category = 1) (h1 : ¬ i < 0) (h2 : i < n) : Con MtJ3_checkIndex yJ3_checkIndex_8e157 l σ [.int i, .int n, v] σ (some (.int i)) := by
  refine Con.of (by decide +kernel) rfl (by decide) (by rw [sl_i, sl_i, show (lg_sl [v]).length = 1 by unfold lg_sl; simp [hv]]; decide) ?_
  rw [show lv_args 0 [.int i, .int n, v] = [(0, .int i), (1, .int n), (2, v)] from rfl]
  refine g_iload_n (j := 0) dJ3_checkIndex_8e157_0 rfl rfl ?_
  refine g_if_lt (tgt := 9) dJ3_checkIndex_8e157_1 (by decide) (fun c => absurd c h1) (fun c => ?_)
  refine g_iload_n (j := 0) dJ3_checkIndex_8e157_4 rfl rfl ?_
  refine g_iload_n (j := 1) dJ3_checkIndex_8e157_5 rfl rfl ?_
  refine g_icmp_lt (tgt := 16) dJ3_checkIndex_8e157_6 (by decide) (fun c => ?_) (fun c => absurd h2 c)
  refine g_iload_n (j := 0) dJ3_checkIndex_8e157_16 rfl rfl ?_
  exact g_iret dJ3_checkIndex_8e157_17 rfl rfl rfl rfl rfl
theorem okJ3_checkIndex (M : Mt) (h1 : 1 + 1 ≤ M.2.2.2.2.1) (h2 : 8 + (3 + 11) + 84 ≤ M.2.2.2.2.2.1) : CallOk M MtJ3_checkIndex yJ3_checkIndex_8e157 3 := ⟨t_837, h1, h2, ⟨by decide, by decide⟩, by decide +kernel, t_31⟩
abbrev MtJ0_checkIndex_df160 : Mt := (cJ0_checkIndex_df160, 2, "java/lang/String", none, 2, 130, false)
theorem wJ0_checkIndex_df160 (l : Launch) {σ σf : St} {x0 x1 : Int32} {r : Unit} (hf : fJ0_checkIndex_df160 σ x0 x1 = some (σf, r)) : Con MtJ0_checkIndex_df160 yJ0_checkIndex_df160 l σ [.int x0, .int x1] σf none := by
  unfold fJ0_checkIndex_df160 at hf
  split at hf
  · cases hf
  · rename_i h1
    split at hf
    · rename_i h2
      have e9 : σ = σf := by cases hf; rfl
      subst e9
      refine Con.of (by decide +kernel) rfl (by decide) (by simp only [sl_n, sl_i]; decide) ?_
      rw [show lv_args 0 [.int x0, .int x1] = [(0, .int x0), (1, .int x1)] from rfl]
      refine g_iload_n (j := 0) dJ0_checkIndex_df160_0 rfl rfl ?_
      refine g_iload_n (j := 1) dJ0_checkIndex_df160_1 rfl rfl ?_
      refine g_getsF dJ0_checkIndex_df160_2 t_545 (fun v hv => ?_)
      refine g_callS_i dJ0_checkIndex_df160_5 (wJ3_checkIndex _ hv h1 h2) (okJ3_checkIndex _ (by decide) (by decide)) t_835 t_836 rfl (Nat.le_of_ble_eq_true rfl) rfl ?_
      refine g_pop dJ0_checkIndex_df160_8 rfl ?_
      exact g_vret dJ0_checkIndex_df160_9 rfl rfl rfl hf
    · cases hf
theorem okJ0_checkIndex_df160 (M : Mt) (h1 : 2 + 1 ≤ M.2.2.2.2.1) (h2 : 8 + (2 + 11) + 130 ≤ M.2.2.2.2.2.1) : CallOk M MtJ0_checkIndex_df160 yJ0_checkIndex_df160 2 := ⟨t_834, h1, h2, ⟨by decide, by decide⟩, by decide +kernel, t_6⟩
