theorem rf_isRefused {m vm d np form told tAt pr : Nat} {ns : List NE} {fs : List FE} {T : List Th} {l : List It} {σ : St} (hK : Bok ns fs T) (hm : MS σ m) (hB : Rbk σ m vm ns fs) (hD : Dfn σ m vm d l np) (h32 : Fi σ m 32 (nI form)) (h33 : Fi σ m 33 (nI told)) (h34 : Fi σ m 34 (nI tAt)) (h35 : Fi σ m 35 (nI pr)) (hf : form ≤ 2) (ht9 : told < 2147483648) (htA : tAt ≤ 200) (hpr : pr ≤ 200)
    (hring : ∀ e, thO ns fs form told = some e → Rch T l e → ∃ rg, rngO T 30 l e = some rg) :
    Hx (fX12_isRefused σ m (nI d)) (Rfp σ m (rfs ns fs T form told tAt pr l)) := by
  have hlt := hB.lt
  have u := rf_unknownAt hm hB hD
  have h32' : sI σ (fid 16 32) m = nI form := h32
  have h33' : sI σ (fid 16 33) m = nI told := h33
  have h34' : sI σ (fid 16 34) m = nI tAt := h34
  have h35' : sI σ (fid 16 35) m = nI pr := h35
  have hz := ckZ_b (b := 1) (by omega)
  rw [n_fX12_isRefused]
  cases hu : unk ns fs l with
  | some p =>
    have e : rfs ns fs T form told tAt pr l = some (1, p, []) := by unfold rfs; rw [hu]
    have hpb : p ≤ 200 := by
      obtain ⟨_, _, s, _, _, _, h5⟩ := hD
      refine unk_b (fun it hit => ?_) hu
      obtain ⟨j, hj, e⟩ := List.getElem_of_mem hit
      have := h5.2 j it (by rw [List.getElem?_eq_getElem hj, e])
      exact this.1.2.2.2.2
    have hne : ¬ ((p : Int) = -1) := by omega
    rw [hu, show iz (oi (some p)) = nI p from (sm_iz p).symm] at u
    rw [e]
    (repeat (first | with_reducible refine hx_bs ?_ | with_reducible refine hx_cs ?_ | with_reducible refine hx_t ?_ | with_reducible refine hx_f ?_ | ((conv => arg 1; arg 1; simp (disch := first | assumption | exact MS_A (by assumption) | exact MS_I (by assumption) | exact MS_A (MS_A (by assumption)) | omega | exact Or.inr rfl | exact Or.inl rfl) only [sm_add, sm_mul, sm_le, sm_lt, sm_eq, sm_div, sm_sub, mx_le, mx_lt, mx_eq, xm_le, xm_lt, xm_eq, iz_le, iz_lt, iz_eq, nb0, nb1, sA_wA_b, sA_wA_eq, Nat.zero_le, not_true_eq_false, not_false_eq_true, Nat.reduceEqDiff, Bool.false_eq_true, rf_ck, u, neg1', hne]); first | with_reducible refine hx_bs ?_ | with_reducible refine hx_cs ?_ | with_reducible refine hx_t ?_ | with_reducible refine hx_f ?_ | with_reducible refine hx_nm ?_))); (try (conv => arg 1; arg 1; simp (disch := first | assumption | exact MS_A (by assumption) | exact MS_I (by assumption) | exact MS_A (MS_A (by assumption)) | omega | exact Or.inr rfl | exact Or.inl rfl) only [sm_add, sm_mul, sm_le, sm_lt, sm_eq, sm_div, sm_sub, mx_le, mx_lt, mx_eq, xm_le, xm_lt, xm_eq, iz_le, iz_lt, iz_eq, nb0, nb1, sA_wA_b, sA_wA_eq, Nat.zero_le, not_true_eq_false, not_false_eq_true, Nat.reduceEqDiff, Bool.false_eq_true, rf_ck, u, neg1', hne]))
    refine Hx.bd (rf_refuse1 hm rfM.rf) ?_
    rintro σ1 v ⟨rfl, h1⟩
    (repeat (first | with_reducible refine hx_bs ?_ | with_reducible refine hx_cs ?_ | with_reducible refine hx_t ?_ | with_reducible refine hx_f ?_ | ((conv => arg 1; arg 1; simp (disch := first | assumption | exact MS_A (by assumption) | exact MS_I (by assumption) | exact MS_A (MS_A (by assumption)) | omega | exact Or.inr rfl | exact Or.inl rfl) only [sm_add, sm_mul, sm_le, sm_lt, sm_eq, sm_div, sm_sub, mx_le, mx_lt, mx_eq, xm_le, xm_lt, xm_eq, iz_le, iz_lt, iz_eq, nb0, nb1, sA_wA_b, sA_wA_eq, Nat.zero_le, not_true_eq_false, not_false_eq_true, Nat.reduceEqDiff, Bool.false_eq_true, rf_ck, hz]); first | with_reducible refine hx_bs ?_ | with_reducible refine hx_cs ?_ | with_reducible refine hx_t ?_ | with_reducible refine hx_f ?_ | with_reducible refine hx_nm ?_))); (try (conv => arg 1; arg 1; simp (disch := first | assumption | exact MS_A (by assumption) | exact MS_I (by assumption) | exact MS_A (MS_A (by assumption)) | omega | exact Or.inr rfl | exact Or.inl rfl) only [sm_add, sm_mul, sm_le, sm_lt, sm_eq, sm_div, sm_sub, mx_le, mx_lt, mx_eq, xm_le, xm_lt, xm_eq, iz_le, iz_lt, iz_eq, nb0, nb1, sA_wA_b, sA_wA_eq, Nat.zero_le, not_true_eq_false, not_false_eq_true, Nat.reduceEqDiff, Bool.false_eq_true, rf_ck, hz]))
    exact Hx.ret h1
  | none =>
    rw [hu, show oi none = -1 from rfl] at u
    by_cases h0 : form = 0
    · have e : rfs ns fs T form told tAt pr l = none := by unfold rfs; rw [hu]; exact if_pos h0
      rw [e]
      rw [h0] at h32'
      (repeat (first | with_reducible refine hx_bs ?_ | with_reducible refine hx_cs ?_ | with_reducible refine hx_t ?_ | with_reducible refine hx_f ?_ | ((conv => arg 1; arg 1; simp (disch := first | assumption | exact MS_A (by assumption) | exact MS_I (by assumption) | exact MS_A (MS_A (by assumption)) | omega | exact Or.inr rfl | exact Or.inl rfl) only [sm_add, sm_mul, sm_le, sm_lt, sm_eq, sm_div, sm_sub, mx_le, mx_lt, mx_eq, xm_le, xm_lt, xm_eq, iz_le, iz_lt, iz_eq, nb0, nb1, sA_wA_b, sA_wA_eq, Nat.zero_le, not_true_eq_false, not_false_eq_true, Nat.reduceEqDiff, Bool.false_eq_true, rf_ck, rf_gI, rf_pI, u, neg1', h32']); first | with_reducible refine hx_bs ?_ | with_reducible refine hx_cs ?_ | with_reducible refine hx_t ?_ | with_reducible refine hx_f ?_ | with_reducible refine hx_nm ?_))); (try (conv => arg 1; arg 1; simp (disch := first | assumption | exact MS_A (by assumption) | exact MS_I (by assumption) | exact MS_A (MS_A (by assumption)) | omega | exact Or.inr rfl | exact Or.inl rfl) only [sm_add, sm_mul, sm_le, sm_lt, sm_eq, sm_div, sm_sub, mx_le, mx_lt, mx_eq, xm_le, xm_lt, xm_eq, iz_le, iz_lt, iz_eq, nb0, nb1, sA_wA_b, sA_wA_eq, Nat.zero_le, not_true_eq_false, not_false_eq_true, Nat.reduceEqDiff, Bool.false_eq_true, rf_ck, rf_gI, rf_pI, u, neg1', h32']))
      exact Hx.ret ⟨rfl, rfM.rf⟩
    · have e : rfs ns fs T form told tAt pr l = pif (tkn ns fs T form told pr) (some (2, tAt, []))
          (match thO ns fs form told with
          | none => if (form = 1 ∧ ns.length = 20) ∨ (form ≠ 1 ∧ fs.length = 10) then some (3, tAt, []) else none
          | some e => pif (Rch T l e) (some (4, tAt, sgw e :: (rngO T 30 l e).getD [])) none) := by
        unfold rfs; rw [hu]; exact if_neg h0
      rw [e]
      have kn : ∀ σ1, fX12_known σ1 (nI told) = some (σ1, nI (known told)) := fun σ1 => rf_known ht9
      have kb := known_b told
      -- refused by 2
      have r110 : ∀ σ1, MS σ1 m → rfM m [] [21] nV σ σ1 → Hx (fX12_isRefused_110 σ1 m) (Rfp σ m (some (2, tAt, []))) := by
        intro σ1 hm1 hR1
        have q : sI σ1 (fid 16 34) m = nI tAt := h34.keep hR1 (by simp)
        rw [n_fX12_isRefused_110]
        (repeat (first | with_reducible refine hx_bs ?_ | with_reducible refine hx_cs ?_ | with_reducible refine hx_t ?_ | with_reducible refine hx_f ?_ | ((conv => arg 1; arg 1; simp (disch := first | assumption | exact MS_A (by assumption) | exact MS_I (by assumption) | exact MS_A (MS_A (by assumption)) | omega | exact Or.inr rfl | exact Or.inl rfl) only [sm_add, sm_mul, sm_le, sm_lt, sm_eq, sm_div, sm_sub, mx_le, mx_lt, mx_eq, xm_le, xm_lt, xm_eq, iz_le, iz_lt, iz_eq, nb0, nb1, sA_wA_b, sA_wA_eq, Nat.zero_le, not_true_eq_false, not_false_eq_true, Nat.reduceEqDiff, Bool.false_eq_true, rf_ck, rf_gI, rf_pI, q]); first | with_reducible refine hx_bs ?_ | with_reducible refine hx_cs ?_ | with_reducible refine hx_t ?_ | with_reducible refine hx_f ?_ | with_reducible refine hx_nm ?_))); (try (conv => arg 1; arg 1; simp (disch := first | assumption | exact MS_A (by assumption) | exact MS_I (by assumption) | exact MS_A (MS_A (by assumption)) | omega | exact Or.inr rfl | exact Or.inl rfl) only [sm_add, sm_mul, sm_le, sm_lt, sm_eq, sm_div, sm_sub, mx_le, mx_lt, mx_eq, xm_le, xm_lt, xm_eq, iz_le, iz_lt, iz_eq, nb0, nb1, sA_wA_b, sA_wA_eq, Nat.zero_le, not_true_eq_false, not_false_eq_true, Nat.reduceEqDiff, Bool.false_eq_true, rf_ck, rf_gI, rf_pI, q]))
        refine Hx.bd (rf_refuse1 hm1 hR1) ?_
        rintro σ2 v ⟨rfl, h1⟩
        (repeat (first | with_reducible refine hx_bs ?_ | with_reducible refine hx_cs ?_ | with_reducible refine hx_t ?_ | with_reducible refine hx_f ?_ | ((conv => arg 1; arg 1; simp (disch := first | assumption | exact MS_A (by assumption) | exact MS_I (by assumption) | exact MS_A (MS_A (by assumption)) | omega | exact Or.inr rfl | exact Or.inl rfl) only [sm_add, sm_mul, sm_le, sm_lt, sm_eq, sm_div, sm_sub, mx_le, mx_lt, mx_eq, xm_le, xm_lt, xm_eq, iz_le, iz_lt, iz_eq, nb0, nb1, sA_wA_b, sA_wA_eq, Nat.zero_le, not_true_eq_false, not_false_eq_true, Nat.reduceEqDiff, Bool.false_eq_true, rf_ck, hz]); first | with_reducible refine hx_bs ?_ | with_reducible refine hx_cs ?_ | with_reducible refine hx_t ?_ | with_reducible refine hx_f ?_ | with_reducible refine hx_nm ?_))); (try (conv => arg 1; arg 1; simp (disch := first | assumption | exact MS_A (by assumption) | exact MS_I (by assumption) | exact MS_A (MS_A (by assumption)) | omega | exact Or.inr rfl | exact Or.inl rfl) only [sm_add, sm_mul, sm_le, sm_lt, sm_eq, sm_div, sm_sub, mx_le, mx_lt, mx_eq, xm_le, xm_lt, xm_eq, iz_le, iz_lt, iz_eq, nb0, nb1, sA_wA_b, sA_wA_eq, Nat.zero_le, not_true_eq_false, not_false_eq_true, Nat.reduceEqDiff, Bool.false_eq_true, rf_ck, hz]))
        exact Hx.ret h1
      have r154 : ∀ σ1, MS σ1 m → rfM m [] [21] nV σ σ1 → Hx (fX12_isRefused_154 σ1 m) (Rfp σ m (some (3, tAt, []))) := by
        intro σ1 hm1 hR1
        have q : sI σ1 (fid 16 34) m = nI tAt := h34.keep hR1 (by simp)
        rw [n_fX12_isRefused_154]
        (repeat (first | with_reducible refine hx_bs ?_ | with_reducible refine hx_cs ?_ | with_reducible refine hx_t ?_ | with_reducible refine hx_f ?_ | ((conv => arg 1; arg 1; simp (disch := first | assumption | exact MS_A (by assumption) | exact MS_I (by assumption) | exact MS_A (MS_A (by assumption)) | omega | exact Or.inr rfl | exact Or.inl rfl) only [sm_add, sm_mul, sm_le, sm_lt, sm_eq, sm_div, sm_sub, mx_le, mx_lt, mx_eq, xm_le, xm_lt, xm_eq, iz_le, iz_lt, iz_eq, nb0, nb1, sA_wA_b, sA_wA_eq, Nat.zero_le, not_true_eq_false, not_false_eq_true, Nat.reduceEqDiff, Bool.false_eq_true, rf_ck, rf_gI, rf_pI, q]); first | with_reducible refine hx_bs ?_ | with_reducible refine hx_cs ?_ | with_reducible refine hx_t ?_ | with_reducible refine hx_f ?_ | with_reducible refine hx_nm ?_))); (try (conv => arg 1; arg 1; simp (disch := first | assumption | exact MS_A (by assumption) | exact MS_I (by assumption) | exact MS_A (MS_A (by assumption)) | omega | exact Or.inr rfl | exact Or.inl rfl) only [sm_add, sm_mul, sm_le, sm_lt, sm_eq, sm_div, sm_sub, mx_le, mx_lt, mx_eq, xm_le, xm_lt, xm_eq, iz_le, iz_lt, iz_eq, nb0, nb1, sA_wA_b, sA_wA_eq, Nat.zero_le, not_true_eq_false, not_false_eq_true, Nat.reduceEqDiff, Bool.false_eq_true, rf_ck, rf_gI, rf_pI, q]))
        refine Hx.bd (rf_refuse1 hm1 hR1) ?_
        rintro σ2 v ⟨rfl, h1⟩
        rw [if_neg (by decide)]
        exact Hx.ret h1
      -- not an other one: 94
      have r94 : ∀ σ1 (o : Option Nat), MS σ1 m → rfM m [] [21] nV σ σ1 → (∀ e, thO ns fs form told = some e → ∃ i, o = some i ∧ tg ns fs i = some e) → (thO ns fs form told = none → o = none) → (0 < known told ∨ ¬ tkn ns fs T form told pr) → Hx (fX12_isRefused_95 σ1 m (nI d) (iz (oi o)) (nI 0)) (Rfp σ m (pif (tkn ns fs T form told pr) (some (2, tAt, []))
          (match thO ns fs form told with
          | none => if (form = 1 ∧ ns.length = 20) ∨ (form ≠ 1 ∧ fs.length = 10) then some (3, tAt, []) else none
          | some e => pif (Rch T l e) (some (4, tAt, sgw e :: (rngO T 30 l e).getD [])) none))) := by
        intro σ1 o hm1 hR1 ho1 ho2 hnt
        have hB1 := hB.keepM hR1 (by simp [Rnot]) (fun _ _ _ h => h)
        have hD1 := hD.keepM hR1 (by simp) (fun _ _ _ h => h)
        have q33 : sI σ1 (fid 16 33) m = nI told := h33.keep hR1 (by simp)
        have q32 : sI σ1 (fid 16 32) m = nI form := h32.keep hR1 (by simp)
        have q34 : sI σ1 (fid 16 34) m = nI tAt := h34.keep hR1 (by simp)
        have q40 : sI σ1 (fid 16 40) m = nI ns.length := hB1.1.1
        have q41 : sI σ1 (fid 16 41) m = nI fs.length := hB1.1.2.2.1
        rw [n_fX12_isRefused_95]
        by_cases hk : 0 < known told
        · have htk : tkn ns fs T form told pr := Or.inl hk
          rw [pif_p htk]
          (repeat (first | with_reducible refine hx_bs ?_ | with_reducible refine hx_cs ?_ | with_reducible refine hx_t ?_ | with_reducible refine hx_f ?_ | ((conv => arg 1; arg 1; simp (disch := first | assumption | exact MS_A (by assumption) | exact MS_I (by assumption) | exact MS_A (MS_A (by assumption)) | omega | exact Or.inr rfl | exact Or.inl rfl) only [sm_add, sm_mul, sm_le, sm_lt, sm_eq, sm_div, sm_sub, mx_le, mx_lt, mx_eq, xm_le, xm_lt, xm_eq, iz_le, iz_lt, iz_eq, nb0, nb1, sA_wA_b, sA_wA_eq, Nat.zero_le, not_true_eq_false, not_false_eq_true, Nat.reduceEqDiff, Bool.false_eq_true, rf_ck, rf_gI, rf_pI, q33, kn, hk]); first | with_reducible refine hx_bs ?_ | with_reducible refine hx_cs ?_ | with_reducible refine hx_t ?_ | with_reducible refine hx_f ?_ | with_reducible refine hx_nm ?_))); (try (conv => arg 1; arg 1; simp (disch := first | assumption | exact MS_A (by assumption) | exact MS_I (by assumption) | exact MS_A (MS_A (by assumption)) | omega | exact Or.inr rfl | exact Or.inl rfl) only [sm_add, sm_mul, sm_le, sm_lt, sm_eq, sm_div, sm_sub, mx_le, mx_lt, mx_eq, xm_le, xm_lt, xm_eq, iz_le, iz_lt, iz_eq, nb0, nb1, sA_wA_b, sA_wA_eq, Nat.zero_le, not_true_eq_false, not_false_eq_true, Nat.reduceEqDiff, Bool.false_eq_true, rf_ck, rf_gI, rf_pI, q33, kn, hk]))
          exact r110 σ1 hm1 hR1
        · have hnt' : ¬ tkn ns fs T form told pr := by
            rcases hnt with h | h
            · exact absurd h hk
            · exact h
          rw [pif_n hnt']
          cases hth : thO ns fs form told with
          | none =>
            have := ho2 hth
            subst this
            rw [show oi none = -1 from rfl]
            by_cases hf1 : form = 1
            · by_cases hfull : ns.length = 20
              · simp only [hf1, hfull, true_and, true_or, ↓reduceIte]
                rw [hf1] at q32
                rw [hfull] at q40
                (repeat (first | with_reducible refine hx_bs ?_ | with_reducible refine hx_cs ?_ | with_reducible refine hx_t ?_ | with_reducible refine hx_f ?_ | ((conv => arg 1; arg 1; simp (disch := first | assumption | exact MS_A (by assumption) | exact MS_I (by assumption) | exact MS_A (MS_A (by assumption)) | omega | exact Or.inr rfl | exact Or.inl rfl) only [sm_add, sm_mul, sm_le, sm_lt, sm_eq, sm_div, sm_sub, mx_le, mx_lt, mx_eq, xm_le, xm_lt, xm_eq, iz_le, iz_lt, iz_eq, nb0, nb1, sA_wA_b, sA_wA_eq, Nat.zero_le, not_true_eq_false, not_false_eq_true, Nat.reduceEqDiff, Bool.false_eq_true, rf_ck, rf_gI, rf_pI, q33, kn, hk, neg1', q32, q40]); first | with_reducible refine hx_bs ?_ | with_reducible refine hx_cs ?_ | with_reducible refine hx_t ?_ | with_reducible refine hx_f ?_ | with_reducible refine hx_nm ?_))); (try (conv => arg 1; arg 1; simp (disch := first | assumption | exact MS_A (by assumption) | exact MS_I (by assumption) | exact MS_A (MS_A (by assumption)) | omega | exact Or.inr rfl | exact Or.inl rfl) only [sm_add, sm_mul, sm_le, sm_lt, sm_eq, sm_div, sm_sub, mx_le, mx_lt, mx_eq, xm_le, xm_lt, xm_eq, iz_le, iz_lt, iz_eq, nb0, nb1, sA_wA_b, sA_wA_eq, Nat.zero_le, not_true_eq_false, not_false_eq_true, Nat.reduceEqDiff, Bool.false_eq_true, rf_ck, rf_gI, rf_pI, q33, kn, hk, neg1', q32, q40]))
                exact r154 σ1 hm1 hR1
              · rw [hf1] at q32
                simp only [hf1, hfull, and_false, ne_eq, not_true_eq_false, false_and, or_self, ↓reduceIte]
                (repeat (first | with_reducible refine hx_bs ?_ | with_reducible refine hx_cs ?_ | with_reducible refine hx_t ?_ | with_reducible refine hx_f ?_ | ((conv => arg 1; arg 1; simp (disch := first | assumption | exact MS_A (by assumption) | exact MS_I (by assumption) | exact MS_A (MS_A (by assumption)) | omega | exact Or.inr rfl | exact Or.inl rfl) only [sm_add, sm_mul, sm_le, sm_lt, sm_eq, sm_div, sm_sub, mx_le, mx_lt, mx_eq, xm_le, xm_lt, xm_eq, iz_le, iz_lt, iz_eq, nb0, nb1, sA_wA_b, sA_wA_eq, Nat.zero_le, not_true_eq_false, not_false_eq_true, Nat.reduceEqDiff, Bool.false_eq_true, rf_ck, rf_gI, rf_pI, q33, kn, hk, neg1', q32, q40, hfull]); first | with_reducible refine hx_bs ?_ | with_reducible refine hx_cs ?_ | with_reducible refine hx_t ?_ | with_reducible refine hx_f ?_ | with_reducible refine hx_nm ?_))); (try (conv => arg 1; arg 1; simp (disch := first | assumption | exact MS_A (by assumption) | exact MS_I (by assumption) | exact MS_A (MS_A (by assumption)) | omega | exact Or.inr rfl | exact Or.inl rfl) only [sm_add, sm_mul, sm_le, sm_lt, sm_eq, sm_div, sm_sub, mx_le, mx_lt, mx_eq, xm_le, xm_lt, xm_eq, iz_le, iz_lt, iz_eq, nb0, nb1, sA_wA_b, sA_wA_eq, Nat.zero_le, not_true_eq_false, not_false_eq_true, Nat.reduceEqDiff, Bool.false_eq_true, rf_ck, rf_gI, rf_pI, q33, kn, hk, neg1', q32, q40, hfull]))
                exact Hx.ret ⟨rfl, hR1⟩
            · by_cases hfull : fs.length = 10
              · simp only [hf1, hfull, false_and, ne_eq, not_false_eq_true, and_self, or_true, ↓reduceIte]
                rw [hfull] at q41
                (repeat (first | with_reducible refine hx_bs ?_ | with_reducible refine hx_cs ?_ | with_reducible refine hx_t ?_ | with_reducible refine hx_f ?_ | ((conv => arg 1; arg 1; simp (disch := first | assumption | exact MS_A (by assumption) | exact MS_I (by assumption) | exact MS_A (MS_A (by assumption)) | omega | exact Or.inr rfl | exact Or.inl rfl) only [sm_add, sm_mul, sm_le, sm_lt, sm_eq, sm_div, sm_sub, mx_le, mx_lt, mx_eq, xm_le, xm_lt, xm_eq, iz_le, iz_lt, iz_eq, nb0, nb1, sA_wA_b, sA_wA_eq, Nat.zero_le, not_true_eq_false, not_false_eq_true, Nat.reduceEqDiff, Bool.false_eq_true, rf_ck, rf_gI, rf_pI, q33, kn, hk, neg1', q32, hf1, q41]); first | with_reducible refine hx_bs ?_ | with_reducible refine hx_cs ?_ | with_reducible refine hx_t ?_ | with_reducible refine hx_f ?_ | with_reducible refine hx_nm ?_))); (try (conv => arg 1; arg 1; simp (disch := first | assumption | exact MS_A (by assumption) | exact MS_I (by assumption) | exact MS_A (MS_A (by assumption)) | omega | exact Or.inr rfl | exact Or.inl rfl) only [sm_add, sm_mul, sm_le, sm_lt, sm_eq, sm_div, sm_sub, mx_le, mx_lt, mx_eq, xm_le, xm_lt, xm_eq, iz_le, iz_lt, iz_eq, nb0, nb1, sA_wA_b, sA_wA_eq, Nat.zero_le, not_true_eq_false, not_false_eq_true, Nat.reduceEqDiff, Bool.false_eq_true, rf_ck, rf_gI, rf_pI, q33, kn, hk, neg1', q32, hf1, q41]))
                exact r154 σ1 hm1 hR1
              · simp only [hf1, hfull, false_and, and_false, or_self, ↓reduceIte]
                (repeat (first | with_reducible refine hx_bs ?_ | with_reducible refine hx_cs ?_ | with_reducible refine hx_t ?_ | with_reducible refine hx_f ?_ | ((conv => arg 1; arg 1; simp (disch := first | assumption | exact MS_A (by assumption) | exact MS_I (by assumption) | exact MS_A (MS_A (by assumption)) | omega | exact Or.inr rfl | exact Or.inl rfl) only [sm_add, sm_mul, sm_le, sm_lt, sm_eq, sm_div, sm_sub, mx_le, mx_lt, mx_eq, xm_le, xm_lt, xm_eq, iz_le, iz_lt, iz_eq, nb0, nb1, sA_wA_b, sA_wA_eq, Nat.zero_le, not_true_eq_false, not_false_eq_true, Nat.reduceEqDiff, Bool.false_eq_true, rf_ck, rf_gI, rf_pI, q33, kn, hk, neg1', q32, hf1, q41, hfull]); first | with_reducible refine hx_bs ?_ | with_reducible refine hx_cs ?_ | with_reducible refine hx_t ?_ | with_reducible refine hx_f ?_ | with_reducible refine hx_nm ?_))); (try (conv => arg 1; arg 1; simp (disch := first | assumption | exact MS_A (by assumption) | exact MS_I (by assumption) | exact MS_A (MS_A (by assumption)) | omega | exact Or.inr rfl | exact Or.inl rfl) only [sm_add, sm_mul, sm_le, sm_lt, sm_eq, sm_div, sm_sub, mx_le, mx_lt, mx_eq, xm_le, xm_lt, xm_eq, iz_le, iz_lt, iz_eq, nb0, nb1, sA_wA_b, sA_wA_eq, Nat.zero_le, not_true_eq_false, not_false_eq_true, Nat.reduceEqDiff, Bool.false_eq_true, rf_ck, rf_gI, rf_pI, q33, kn, hk, neg1', q32, hf1, q41, hfull]))
                exact Hx.ret ⟨rfl, hR1⟩
          | some e =>
            obtain ⟨i, rfl, hie⟩ := ho1 e hth
            have i30 := (hB1.pos hie).1
            have hne : ¬ ((i : Int) = -1) := by omega
            rw [show iz (oi (some i)) = nI i from (sm_iz i).symm]
            (repeat (first | with_reducible refine hx_bs ?_ | with_reducible refine hx_cs ?_ | with_reducible refine hx_t ?_ | with_reducible refine hx_f ?_ | ((conv => arg 1; arg 1; simp (disch := first | assumption | exact MS_A (by assumption) | exact MS_I (by assumption) | exact MS_A (MS_A (by assumption)) | omega | exact Or.inr rfl | exact Or.inl rfl) only [sm_add, sm_mul, sm_le, sm_lt, sm_eq, sm_div, sm_sub, mx_le, mx_lt, mx_eq, xm_le, xm_lt, xm_eq, iz_le, iz_lt, iz_eq, nb0, nb1, sA_wA_b, sA_wA_eq, Nat.zero_le, not_true_eq_false, not_false_eq_true, Nat.reduceEqDiff, Bool.false_eq_true, rf_ck, rf_gI, rf_pI, q33, kn, hk, neg1', hne]); first | with_reducible refine hx_bs ?_ | with_reducible refine hx_cs ?_ | with_reducible refine hx_t ?_ | with_reducible refine hx_f ?_ | with_reducible refine hx_nm ?_))); (try (conv => arg 1; arg 1; simp (disch := first | assumption | exact MS_A (by assumption) | exact MS_I (by assumption) | exact MS_A (MS_A (by assumption)) | omega | exact Or.inr rfl | exact Or.inl rfl) only [sm_add, sm_mul, sm_le, sm_lt, sm_eq, sm_div, sm_sub, mx_le, mx_lt, mx_eq, xm_le, xm_lt, xm_eq, iz_le, iz_lt, iz_eq, nb0, nb1, sA_wA_b, sA_wA_eq, Nat.zero_le, not_true_eq_false, not_false_eq_true, Nat.reduceEqDiff, Bool.false_eq_true, rf_ck, rf_gI, rf_pI, q33, kn, hk, neg1', hne]))
            refine Hx.bd (rf_findsUsed hm1 hB1 hD1) ?_
            rintro σ2 v ⟨hR2, hU2⟩
            have hm2 := hR2.ms hm1
            have hB2 := hB1.keepM hR2 (by simp [Rnot]) (fun _ _ _ h => h)
            have hD2 := hD1.keepM hR2 (by simp) (fun _ _ _ h => h)
            have hu2 := (hU2 i i30).1 e hie
            have q34' : sI σ2 (fid 16 34) m = nI tAt := Fi.keep (f := 34) q34 hR2 (by simp)
            by_cases hr : Rch T l e
            · simp only [pif_p hr]
              rw [b01_p ((Rch.congr hK.2.1).mpr hr)] at hu2
              (repeat (first | with_reducible refine hx_bs ?_ | with_reducible refine hx_cs ?_ | with_reducible refine hx_t ?_ | with_reducible refine hx_f ?_ | ((conv => arg 1; arg 1; simp (disch := first | assumption | exact MS_A (by assumption) | exact MS_I (by assumption) | exact MS_A (MS_A (by assumption)) | omega | exact Or.inr rfl | exact Or.inl rfl) only [sm_add, sm_mul, sm_le, sm_lt, sm_eq, sm_div, sm_sub, mx_le, mx_lt, mx_eq, xm_le, xm_lt, xm_eq, iz_le, iz_lt, iz_eq, nb0, nb1, sA_wA_b, sA_wA_eq, Nat.zero_le, not_true_eq_false, not_false_eq_true, Nat.reduceEqDiff, Bool.false_eq_true, rf_ck, rf_isUsed, ldb_isUsed, stb_isUsed, rf_gI, rf_pI, hu2, q34']); first | with_reducible refine hx_bs ?_ | with_reducible refine hx_cs ?_ | with_reducible refine hx_t ?_ | with_reducible refine hx_f ?_ | with_reducible refine hx_nm ?_))); (try (conv => arg 1; arg 1; simp (disch := first | assumption | exact MS_A (by assumption) | exact MS_I (by assumption) | exact MS_A (MS_A (by assumption)) | omega | exact Or.inr rfl | exact Or.inl rfl) only [sm_add, sm_mul, sm_le, sm_lt, sm_eq, sm_div, sm_sub, mx_le, mx_lt, mx_eq, xm_le, xm_lt, xm_eq, iz_le, iz_lt, iz_eq, nb0, nb1, sA_wA_b, sA_wA_eq, Nat.zero_le, not_true_eq_false, not_false_eq_true, Nat.reduceEqDiff, Bool.false_eq_true, rf_ck, rf_isUsed, ldb_isUsed, stb_isUsed, rf_gI, rf_pI, hu2, q34']))
              refine Hx.bd (rf_refuse1 (c := 4) (p := tAt) hm2 (hR1.tr hR2)) ?_
              rintro σ3 v ⟨rfl, _, hR3, f1, f2, f3, f4, _⟩
              have hm3 := hR3.ms hm
              have hB3 := hB.keepM hR3 (by simp [Rnot]) (fun _ _ _ h => h)
              have hD3 := hD.keepM hR3 (by simp) (fun _ _ _ h => h)
              obtain ⟨rg, hrg⟩ := hring e hth hr
              have rl := rngO_len hrg
              have := rf_ring_loop hK hie 30 FU σ3 none d np 0 l rg (by unfold FU; omega) hm3 hB3 hD3 hrg (by omega) f4 (Or.inl rfl)
              rw [show oi none = -1 from rfl] at this
              rw [hrg]
              refine this.mo ?_
              rintro σ4 v ⟨q1, q2, q3, q4, q5, q6⟩
              refine ⟨q1, hR3.tr (q2.mo (by simp) (fun _ h => h)), f1.keep q2 (by simp), f2.keep q2 (by simp), f3.keep q2 (by simp), ?_, by simp; omega, fun j z hj => ?_⟩
              · rw [show ((sgw e :: (some rg).getD []).length) = 0 + 1 + rg.length by simp; omega]
                exact q3
              · cases j with
                | zero => cases hj; exact q4
                | succ j =>
                  have hj' : rg[j]? = some z := hj
                  have := q6 j z hj'
                  rw [show 0 + 1 + j = j + 1 by omega] at this
                  exact this
            · simp only [pif_n hr]
              rw [b01_n (fun h => hr ((Rch.congr hK.2.1).mp h))] at hu2
              (repeat (first | with_reducible refine hx_bs ?_ | with_reducible refine hx_cs ?_ | with_reducible refine hx_t ?_ | with_reducible refine hx_f ?_ | ((conv => arg 1; arg 1; simp (disch := first | assumption | exact MS_A (by assumption) | exact MS_I (by assumption) | exact MS_A (MS_A (by assumption)) | omega | exact Or.inr rfl | exact Or.inl rfl) only [sm_add, sm_mul, sm_le, sm_lt, sm_eq, sm_div, sm_sub, mx_le, mx_lt, mx_eq, xm_le, xm_lt, xm_eq, iz_le, iz_lt, iz_eq, nb0, nb1, sA_wA_b, sA_wA_eq, Nat.zero_le, not_true_eq_false, not_false_eq_true, Nat.reduceEqDiff, Bool.false_eq_true, rf_ck, rf_isUsed, ldb_isUsed, stb_isUsed, rf_gI, rf_pI, hu2, q34']); first | with_reducible refine hx_bs ?_ | with_reducible refine hx_cs ?_ | with_reducible refine hx_t ?_ | with_reducible refine hx_f ?_ | with_reducible refine hx_nm ?_))); (try (conv => arg 1; arg 1; simp (disch := first | assumption | exact MS_A (by assumption) | exact MS_I (by assumption) | exact MS_A (MS_A (by assumption)) | omega | exact Or.inr rfl | exact Or.inl rfl) only [sm_add, sm_mul, sm_le, sm_lt, sm_eq, sm_div, sm_sub, mx_le, mx_lt, mx_eq, xm_le, xm_lt, xm_eq, iz_le, iz_lt, iz_eq, nb0, nb1, sA_wA_b, sA_wA_eq, Nat.zero_le, not_true_eq_false, not_false_eq_true, Nat.reduceEqDiff, Bool.false_eq_true, rf_ck, rf_isUsed, ldb_isUsed, stb_isUsed, rf_gI, rf_pI, hu2, q34']))
              exact Hx.ret ⟨rfl, hR1.tr hR2⟩
      by_cases hf2 : form = 2
      · have hthO : thO ns fs form told = thF fs told := if_pos hf2
        have th := rf_thingF hm ht9 hB
        rw [hf2] at h32'
        cases hfx : fix (fs.map (·.1)) told with
        | none =>
          rw [hfx, show thn none 20 = -1 from rfl] at th
          have hn1 := thF_none hfx
          (repeat (first | with_reducible refine hx_bs ?_ | with_reducible refine hx_cs ?_ | with_reducible refine hx_t ?_ | with_reducible refine hx_f ?_ | rw [n_fX12_isRefused_47] | rw [n_fX12_isRefused_94] | ((conv => arg 1; arg 1; simp (disch := first | assumption | exact MS_A (by assumption) | exact MS_I (by assumption) | exact MS_A (MS_A (by assumption)) | omega | exact Or.inr rfl | exact Or.inl rfl) only [sm_add, sm_mul, sm_le, sm_lt, sm_eq, sm_div, sm_sub, mx_le, mx_lt, mx_eq, xm_le, xm_lt, xm_eq, iz_le, iz_lt, iz_eq, nb0, nb1, sA_wA_b, sA_wA_eq, Nat.zero_le, not_true_eq_false, not_false_eq_true, Nat.reduceEqDiff, Bool.false_eq_true, rf_ck, rf_gI, rf_pI, u, neg1', h32', h33', th]); first | with_reducible refine hx_bs ?_ | with_reducible refine hx_cs ?_ | with_reducible refine hx_t ?_ | with_reducible refine hx_f ?_ | with_reducible refine hx_nm ?_))); (try (conv => arg 1; arg 1; simp (disch := first | assumption | exact MS_A (by assumption) | exact MS_I (by assumption) | exact MS_A (MS_A (by assumption)) | omega | exact Or.inr rfl | exact Or.inl rfl) only [sm_add, sm_mul, sm_le, sm_lt, sm_eq, sm_div, sm_sub, mx_le, mx_lt, mx_eq, xm_le, xm_lt, xm_eq, iz_le, iz_lt, iz_eq, nb0, nb1, sA_wA_b, sA_wA_eq, Nat.zero_le, not_true_eq_false, not_false_eq_true, Nat.reduceEqDiff, Bool.false_eq_true, rf_ck, rf_gI, rf_pI, u, neg1', h32', h33', th]))
          have := r94 σ none hm rfM.rf (fun e he => by rw [hthO, hn1] at he; cases he) (fun _ => rfl) (by
            by_cases hk : 0 < known told
            · exact Or.inl hk
            · refine Or.inr ?_
              rintro (h | ⟨_, q, e, h1, h2, _⟩)
              · exact hk h
              · rw [hn1] at h2; cases h2)
          rw [show oi none = -1 from rfl] at this
          exact this
        | some k =>
          have hk10 : k < 10 := by have := fix_lt hfx; simp at this; omega
          obtain ⟨e, hF1, hF2, hF3, hF4⟩ := thF_fix (ns := ns) hfx
          obtain ⟨x, hx1, hx2, hx3⟩ := fix_some_np hfx
          rw [hfx, show iz (thn (some k) 20) = nI (20 + k) from (sm_iz _).symm] at th
          obtain ⟨_, _, dd, b3, b4⟩ := hB.2.2 k x hx1
          obtain ⟨c1, c2, _, _, _, c5, _⟩ := id b4
          have hne : ¬ (((20 + k : Nat) : Int) = -1) := by omega
          have ho1 : ∀ e', thO ns fs form told = some e' → ∃ i, some (20 + k) = some i ∧ tg ns fs i = some e' := by
            intro e' he'
            rw [hthO, hF1] at he'
            cases he'
            exact ⟨20 + k, rfl, hF2⟩
          have oii : iz (oi (some (20 + k))) = nI (20 + k) := (sm_iz _).symm
          by_cases hpe : x.2.1 = pr
          · (repeat (first | with_reducible refine hx_bs ?_ | with_reducible refine hx_cs ?_ | with_reducible refine hx_t ?_ | with_reducible refine hx_f ?_ | rw [n_fX12_isRefused_47] | rw [n_fX12_isRefused_94] | ((conv => arg 1; arg 1; simp (disch := first | assumption | exact MS_A (by assumption) | exact MS_I (by assumption) | exact MS_A (MS_A (by assumption)) | omega | exact Or.inr rfl | exact Or.inl rfl) only [sm_add, sm_mul, sm_le, sm_lt, sm_eq, sm_div, sm_sub, mx_le, mx_lt, mx_eq, xm_le, xm_lt, xm_eq, iz_le, iz_lt, iz_eq, nb0, nb1, sA_wA_b, sA_wA_eq, Nat.zero_le, not_true_eq_false, not_false_eq_true, Nat.reduceEqDiff, Bool.false_eq_true, rf_ck, rf_gI, rf_pI, rf_defPar, ld_defPar, st_defPar, rf_def, ld_def, st_def, u, neg1', h32', h33', th, hne, b3, c5, h35', hpe]); first | with_reducible refine hx_bs ?_ | with_reducible refine hx_cs ?_ | with_reducible refine hx_t ?_ | with_reducible refine hx_f ?_ | with_reducible refine hx_nm ?_))); (try (conv => arg 1; arg 1; simp (disch := first | assumption | exact MS_A (by assumption) | exact MS_I (by assumption) | exact MS_A (MS_A (by assumption)) | omega | exact Or.inr rfl | exact Or.inl rfl) only [sm_add, sm_mul, sm_le, sm_lt, sm_eq, sm_div, sm_sub, mx_le, mx_lt, mx_eq, xm_le, xm_lt, xm_eq, iz_le, iz_lt, iz_eq, nb0, nb1, sA_wA_b, sA_wA_eq, Nat.zero_le, not_true_eq_false, not_false_eq_true, Nat.reduceEqDiff, Bool.false_eq_true, rf_ck, rf_gI, rf_pI, rf_defPar, ld_defPar, st_defPar, rf_def, ld_def, st_def, u, neg1', h32', h33', th, hne, b3, c5, h35', hpe]))
            have := r94 σ (some (20 + k)) hm rfM.rf ho1 (fun h => by rw [hthO, hF1] at h; cases h) (by
              by_cases hk : 0 < known told
              · exact Or.inl hk
              · refine Or.inr ?_
                rintro (h | ⟨_, q, e', h1, h2, h3, _⟩)
                · exact hk h
                · rw [hx3] at h1; cases h1; exact h3 hpe)
            rw [oii] at this
            exact this
          · (repeat (first | with_reducible refine hx_bs ?_ | with_reducible refine hx_cs ?_ | with_reducible refine hx_t ?_ | with_reducible refine hx_f ?_ | rw [n_fX12_isRefused_47] | rw [n_fX12_isRefused_94] | ((conv => arg 1; arg 1; simp (disch := first | assumption | exact MS_A (by assumption) | exact MS_I (by assumption) | exact MS_A (MS_A (by assumption)) | omega | exact Or.inr rfl | exact Or.inl rfl) only [sm_add, sm_mul, sm_le, sm_lt, sm_eq, sm_div, sm_sub, mx_le, mx_lt, mx_eq, xm_le, xm_lt, xm_eq, iz_le, iz_lt, iz_eq, nb0, nb1, sA_wA_b, sA_wA_eq, Nat.zero_le, not_true_eq_false, not_false_eq_true, Nat.reduceEqDiff, Bool.false_eq_true, rf_ck, rf_gI, rf_pI, rf_defPar, ld_defPar, st_defPar, rf_def, ld_def, st_def, u, neg1', h32', h33', th, hne, b3, c5, h35', hpe]); first | with_reducible refine hx_bs ?_ | with_reducible refine hx_cs ?_ | with_reducible refine hx_t ?_ | with_reducible refine hx_f ?_ | with_reducible refine hx_nm ?_))); (try (conv => arg 1; arg 1; simp (disch := first | assumption | exact MS_A (by assumption) | exact MS_I (by assumption) | exact MS_A (MS_A (by assumption)) | omega | exact Or.inr rfl | exact Or.inl rfl) only [sm_add, sm_mul, sm_le, sm_lt, sm_eq, sm_div, sm_sub, mx_le, mx_lt, mx_eq, xm_le, xm_lt, xm_eq, iz_le, iz_lt, iz_eq, nb0, nb1, sA_wA_b, sA_wA_eq, Nat.zero_le, not_true_eq_false, not_false_eq_true, Nat.reduceEqDiff, Bool.false_eq_true, rf_ck, rf_gI, rf_pI, rf_defPar, ld_defPar, st_defPar, rf_def, ld_def, st_def, u, neg1', h32', h33', th, hne, b3, c5, h35', hpe]))
            refine Hx.bd (rf_users hm hB hF2) ?_
            rintro σ1 v ⟨⟨c, rfl, hc30, hc0⟩, hR1⟩
            have hm1 := hR1.ms hm
            rw [usd_iff hlt hK.2.2.2 hK.2.1 hF2] at hc0
            (repeat (first | with_reducible refine hx_bs ?_ | with_reducible refine hx_cs ?_ | with_reducible refine hx_t ?_ | with_reducible refine hx_f ?_ | ((conv => arg 1; arg 1; simp (disch := first | assumption | exact MS_A (by assumption) | exact MS_I (by assumption) | exact MS_A (MS_A (by assumption)) | omega | exact Or.inr rfl | exact Or.inl rfl) only [sm_add, sm_mul, sm_le, sm_lt, sm_eq, sm_div, sm_sub, mx_le, mx_lt, mx_eq, xm_le, xm_lt, xm_eq, iz_le, iz_lt, iz_eq, nb0, nb1, sA_wA_b, sA_wA_eq, Nat.zero_le, not_true_eq_false, not_false_eq_true, Nat.reduceEqDiff, Bool.false_eq_true, rf_ck]); first | with_reducible refine hx_bs ?_ | with_reducible refine hx_cs ?_ | with_reducible refine hx_t ?_ | with_reducible refine hx_f ?_ | with_reducible refine hx_nm ?_))); (try (conv => arg 1; arg 1; simp (disch := first | assumption | exact MS_A (by assumption) | exact MS_I (by assumption) | exact MS_A (MS_A (by assumption)) | omega | exact Or.inr rfl | exact Or.inl rfl) only [sm_add, sm_mul, sm_le, sm_lt, sm_eq, sm_div, sm_sub, mx_le, mx_lt, mx_eq, xm_le, xm_lt, xm_eq, iz_le, iz_lt, iz_eq, nb0, nb1, sA_wA_b, sA_wA_eq, Nat.zero_le, not_true_eq_false, not_false_eq_true, Nat.reduceEqDiff, Bool.false_eq_true, rf_ck]))
            refine Hx.cs (fun h => ?_) (fun h => ?_)
            · have hnu := hc0.mp (by omega)
              have := r94 σ1 (some (20 + k)) hm1 hR1 ho1 (fun h => by rw [hthO, hF1] at h; cases h) (by
                by_cases hk : 0 < known told
                · exact Or.inl hk
                · refine Or.inr ?_
                  rintro (h | ⟨_, q, e', h1, h2, h3, h4⟩)
                  · exact hk h
                  · rw [hF1] at h2; cases h2; exact hnu h4)
              rw [oii] at this
              exact this
            · have hus : usT T e := by
                apply Classical.byContradiction
                intro h9
                have := hc0.mpr h9
                omega
              have htk : tkn ns fs T form told pr := Or.inr ⟨hf2, x.2.1, e, hx3, hF1, hpe, hus⟩
              rw [pif_p htk]
              have q33 : sI σ1 (fid 16 33) m = nI told := h33.keep hR1 (by simp)
              rw [n_fX12_isRefused_95]
              by_cases hk : 0 < known told
              · (repeat (first | with_reducible refine hx_bs ?_ | with_reducible refine hx_cs ?_ | with_reducible refine hx_t ?_ | with_reducible refine hx_f ?_ | ((conv => arg 1; arg 1; simp (disch := first | assumption | exact MS_A (by assumption) | exact MS_I (by assumption) | exact MS_A (MS_A (by assumption)) | omega | exact Or.inr rfl | exact Or.inl rfl) only [sm_add, sm_mul, sm_le, sm_lt, sm_eq, sm_div, sm_sub, mx_le, mx_lt, mx_eq, xm_le, xm_lt, xm_eq, iz_le, iz_lt, iz_eq, nb0, nb1, sA_wA_b, sA_wA_eq, Nat.zero_le, not_true_eq_false, not_false_eq_true, Nat.reduceEqDiff, Bool.false_eq_true, rf_ck, rf_gI, rf_pI, q33, kn, hk]); first | with_reducible refine hx_bs ?_ | with_reducible refine hx_cs ?_ | with_reducible refine hx_t ?_ | with_reducible refine hx_f ?_ | with_reducible refine hx_nm ?_))); (try (conv => arg 1; arg 1; simp (disch := first | assumption | exact MS_A (by assumption) | exact MS_I (by assumption) | exact MS_A (MS_A (by assumption)) | omega | exact Or.inr rfl | exact Or.inl rfl) only [sm_add, sm_mul, sm_le, sm_lt, sm_eq, sm_div, sm_sub, mx_le, mx_lt, mx_eq, xm_le, xm_lt, xm_eq, iz_le, iz_lt, iz_eq, nb0, nb1, sA_wA_b, sA_wA_eq, Nat.zero_le, not_true_eq_false, not_false_eq_true, Nat.reduceEqDiff, Bool.false_eq_true, rf_ck, rf_gI, rf_pI, q33, kn, hk]))
                exact r110 σ1 hm1 hR1
              · (repeat (first | with_reducible refine hx_bs ?_ | with_reducible refine hx_cs ?_ | with_reducible refine hx_t ?_ | with_reducible refine hx_f ?_ | ((conv => arg 1; arg 1; simp (disch := first | assumption | exact MS_A (by assumption) | exact MS_I (by assumption) | exact MS_A (MS_A (by assumption)) | omega | exact Or.inr rfl | exact Or.inl rfl) only [sm_add, sm_mul, sm_le, sm_lt, sm_eq, sm_div, sm_sub, mx_le, mx_lt, mx_eq, xm_le, xm_lt, xm_eq, iz_le, iz_lt, iz_eq, nb0, nb1, sA_wA_b, sA_wA_eq, Nat.zero_le, not_true_eq_false, not_false_eq_true, Nat.reduceEqDiff, Bool.false_eq_true, rf_ck, rf_gI, rf_pI, q33, kn, hk]); first | with_reducible refine hx_bs ?_ | with_reducible refine hx_cs ?_ | with_reducible refine hx_t ?_ | with_reducible refine hx_f ?_ | with_reducible refine hx_nm ?_))); (try (conv => arg 1; arg 1; simp (disch := first | assumption | exact MS_A (by assumption) | exact MS_I (by assumption) | exact MS_A (MS_A (by assumption)) | omega | exact Or.inr rfl | exact Or.inl rfl) only [sm_add, sm_mul, sm_le, sm_lt, sm_eq, sm_div, sm_sub, mx_le, mx_lt, mx_eq, xm_le, xm_lt, xm_eq, iz_le, iz_lt, iz_eq, nb0, nb1, sA_wA_b, sA_wA_eq, Nat.zero_le, not_true_eq_false, not_false_eq_true, Nat.reduceEqDiff, Bool.false_eq_true, rf_ck, rf_gI, rf_pI, q33, kn, hk]))
                exact r110 σ1 hm1 hR1
      · have hthO : thO ns fs form told = thN ns told := if_neg hf2
        have th := rf_thingN hm ht9 hB
        have hnk : ¬ tkn ns fs T form told pr ∨ 0 < known told := by
          by_cases hk : 0 < known told
          · exact Or.inr hk
          · refine Or.inl ?_
            rintro (h | ⟨h, _⟩)
            · exact hk h
            · exact hf2 h
        cases hfx : fix (ns.map (·.1)) told with
        | none =>
          rw [hfx, show thn none 0 = -1 from rfl] at th
          have hn1 := thN_none hfx
          (repeat (first | with_reducible refine hx_bs ?_ | with_reducible refine hx_cs ?_ | with_reducible refine hx_t ?_ | with_reducible refine hx_f ?_ | rw [n_fX12_isRefused_47] | rw [n_fX12_isRefused_94] | ((conv => arg 1; arg 1; simp (disch := first | assumption | exact MS_A (by assumption) | exact MS_I (by assumption) | exact MS_A (MS_A (by assumption)) | omega | exact Or.inr rfl | exact Or.inl rfl) only [sm_add, sm_mul, sm_le, sm_lt, sm_eq, sm_div, sm_sub, mx_le, mx_lt, mx_eq, xm_le, xm_lt, xm_eq, iz_le, iz_lt, iz_eq, nb0, nb1, sA_wA_b, sA_wA_eq, Nat.zero_le, not_true_eq_false, not_false_eq_true, Nat.reduceEqDiff, Bool.false_eq_true, rf_ck, rf_gI, rf_pI, u, neg1', h32', h0, hf2, h33', th]); first | with_reducible refine hx_bs ?_ | with_reducible refine hx_cs ?_ | with_reducible refine hx_t ?_ | with_reducible refine hx_f ?_ | with_reducible refine hx_nm ?_))); (try (conv => arg 1; arg 1; simp (disch := first | assumption | exact MS_A (by assumption) | exact MS_I (by assumption) | exact MS_A (MS_A (by assumption)) | omega | exact Or.inr rfl | exact Or.inl rfl) only [sm_add, sm_mul, sm_le, sm_lt, sm_eq, sm_div, sm_sub, mx_le, mx_lt, mx_eq, xm_le, xm_lt, xm_eq, iz_le, iz_lt, iz_eq, nb0, nb1, sA_wA_b, sA_wA_eq, Nat.zero_le, not_true_eq_false, not_false_eq_true, Nat.reduceEqDiff, Bool.false_eq_true, rf_ck, rf_gI, rf_pI, u, neg1', h32', h0, hf2, h33', th]))
          have := r94 σ none hm rfM.rf (fun e he => by rw [hthO, hn1] at he; cases he) (fun _ => rfl) hnk.symm
          rw [show oi none = -1 from rfl] at this
          exact this
        | some k =>
          have hk20 : k < 20 := by have := fix_lt hfx; simp at this; omega
          obtain ⟨e, hF1, hF2, hF3, hF4⟩ := thN_fix (fs := fs) hlt.1 hfx
          have thk : iz (thn (some k) 0) = nI k := by rw [sm_iz]; show iz ((0 + k : Nat) : Int) = _; rw [Nat.zero_add]
          rw [hfx, thk] at th
          have hne : ¬ ((k : Int) = -1) := by omega
          have := r94 σ (some k) hm rfM.rf (fun e' he' => by rw [hthO, hF1] at he'; cases he'; exact ⟨k, rfl, hF2⟩) (fun h => by rw [hthO, hF1] at h; cases h) hnk.symm
          rw [show iz (oi (some k)) = nI k from (sm_iz k).symm] at this
          clear r94 r110 r154 hring
          (repeat (first | with_reducible refine hx_bs ?_ | with_reducible refine hx_cs ?_ | with_reducible refine hx_t ?_ | with_reducible refine hx_f ?_ | rw [n_fX12_isRefused_47] | rw [n_fX12_isRefused_94] | ((conv => arg 1; arg 1; simp (disch := first | assumption | exact MS_A (by assumption) | exact MS_I (by assumption) | exact MS_A (MS_A (by assumption)) | omega | exact Or.inr rfl | exact Or.inl rfl) only [sm_add, sm_mul, sm_le, sm_lt, sm_eq, sm_div, sm_sub, mx_le, mx_lt, mx_eq, xm_le, xm_lt, xm_eq, iz_le, iz_lt, iz_eq, nb0, nb1, sA_wA_b, sA_wA_eq, Nat.zero_le, not_true_eq_false, not_false_eq_true, Nat.reduceEqDiff, Bool.false_eq_true, rf_ck, rf_gI, rf_pI, u, neg1', h32', h0, hf2, h33', th, hne]); first | with_reducible refine hx_bs ?_ | with_reducible refine hx_cs ?_ | with_reducible refine hx_t ?_ | with_reducible refine hx_f ?_ | with_reducible refine hx_nm ?_))); (try (conv => arg 1; arg 1; simp (disch := first | assumption | exact MS_A (by assumption) | exact MS_I (by assumption) | exact MS_A (MS_A (by assumption)) | omega | exact Or.inr rfl | exact Or.inl rfl) only [sm_add, sm_mul, sm_le, sm_lt, sm_eq, sm_div, sm_sub, mx_le, mx_lt, mx_eq, xm_le, xm_lt, xm_eq, iz_le, iz_lt, iz_eq, nb0, nb1, sA_wA_b, sA_wA_eq, Nat.zero_le, not_true_eq_false, not_false_eq_true, Nat.reduceEqDiff, Bool.false_eq_true, rf_ck, rf_gI, rf_pI, u, neg1', h32', h0, hf2, h33', th, hne]))
          exact this
