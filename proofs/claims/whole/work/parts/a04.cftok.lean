/-! ===== the class' Reader finds the tokens ===== -/
/-- a token in the Reader's rows -/
def RKr (σ : St) (x : Nat) (t : List Nat) (i : Nat) : Prop := sA σ (x + 67) i = nI (tk t i).1 ∧ sA σ (x + 68) i = nI (tk t i).2.2.1 ∧ ((tk t i).1 = 1 → sA σ (x + 69) i = nI (tk t i).2.1)
def RK (σ : St) (x : Nat) (t : List Nat) (n : Nat) : Prop := sI σ (fid 8 5) (x + 65) = nI n ∧ ∀ i, i < n → RKr σ x t i
def fT (f : Nat) : Prop := f = fid 8 5
def aT3 (o : Nat) : Prop := o = 67 ∨ o = 68 ∨ o = 69
theorem cr_ft16 {σ : St} {x k : Nat} {t : List Nat} {k9 : St → Nat → Int32 → Int32 → Option (St × Unit)} {Q : St → Unit → Prop} (h : RT σ x t) (hx : XS σ x) : ∀ (n p : Nat), t.length - p < n → p ≤ t.length → Hx (fX4_findTokens_50 k9 σ (x + 65) (nI (ew isS t p)) (nI k)) Q → Hx (fX4_findTokens_16 k9 n σ (x + 65) (nI p) (nI k)) Q := by
  have hl := h.1.2
  intro n
  induction n with
  | zero => intro p h; omega
  | succ n ih =>
    intro p hn hp hq
    have hb := h.b p
    have go : p < t.length → isS (tb t p) = true → Hx (fX4_findTokens_44 k9 (fX4_findTokens_16 k9 n) σ (x + 65) (nI p) (nI k)) Q := by
      intro c1 c2
      rw [n_fX4_findTokens_44]
      refine hx_nm ?_
      rw [sm_add]
      rw [ew_y c1 c2] at hq
      exact ih (p + 1) (by omega) (by omega) hq
    try rw [n_fX4_findTokens_16, h.g1 hx]
    refine hx_bs (Hx.ce (sm_le (by omega) (by omega)) (fun c => ?_) (fun c => ?_))
    · rw [ew_e c] at hq; exact hq
    · try rw [hx.c9]
      refine hx_bs ?_
      try rw [cr_byteAt h hx (by omega)]
      refine hx_cs (Hx.ce (sm_eq (by omega) (by omega)) (fun c2 => go (by omega) (isS_i.mpr (Or.inl c2))) (fun c2 => ?_))
      try rw [hx.c9]
      refine hx_bs ?_
      try rw [cr_byteAt h hx (by omega)]
      refine hx_cs (Hx.ce (sm_eq (by omega) (by omega)) (fun c3 => go (by omega) (isS_i.mpr (Or.inr c3))) (fun c3 => ?_))
      rw [ew_n (by omega) (fun q => by have := isS_i.mp q; omega)] at hq
      exact hq
theorem cr_ft9 {σ0 : St} {x : Nat} {t : List Nat} : ∀ (n k : Nat) (σ : St), 201 - k < n → rX x fT aT3 σ0 σ → RT σ x t → XS σ x → (∀ j, j < k → gon (tk t j)) → (∀ j, j < k → RKr σ x t j) →
    Hx (fX4_findTokens_9 n σ (x + 65) (nI (tkp t k)) (nI k)) (fun σ' _ => rX x fT aT3 σ0 σ' ∧ ∃ m, Ntk t m ∧ RK σ' x t m) := by
  intro n
  induction n with
  | zero => intro k σ h; omega
  | succ n ih =>
    intro k σ hn hR h hx hg hr
    have hl := h.1.2
    have g1 := tkp_i k hg
    have g2 := tkp_le (t := t) k
    rw [n_fX4_findTokens_9]
    refine Hx.ce (sm_lt (by omega) (by omega)) (fun c => absurd c (by omega)) (fun _ => ?_)
    refine cr_ft16 h hx FU (tkp t k) (by show t.length - tkp t k < 4294967296; omega) g2 ?_
    have g3 : ew isS t (tkp t k) ≤ t.length := ew_le g2
    have etk : tk t k = lxs t (ew isS t (tkp t k)) := rfl
    obtain ⟨b1, b2, b3, b4, b5, b6, b7⟩ := tk_b (t := t) k
    have n67 : sN σ (x + 67) = 201 := hx.nn 67 201 (by decide)
    have n68 : sN σ (x + 68) = 201 := hx.nn 68 201 (by decide)
    have n69 : sN σ (x + 69) = 201 := hx.nn 69 201 (by decide)
    have k67 : sK σ (x + 67) = 100 := hx.kd 67 100 (by decide)
    have k68 : sK σ (x + 68) = 100 := hx.kd 68 100 (by decide)
    have k69 : sK σ (x + 69) = 100 := hx.kd 69 100 (by decide)
    have e1 := b1
    generalize hs : ew isS t (tkp t k) = s at *
    try rw [n_fX4_findTokens_50, xf_8_3 hx]
    refine hx_bs ?_
    try rw [sm_st k68 (by omega) (by omega)]
    refine hx_bs ?_
    have hR1 : rX x fT aT3 σ (wA σ (x + 68) k (nI s)) := rX.wA (Or.inr (Or.inl rfl))
    have hx1 := hx.rX hR1
    have h1 := h.rX hR1 (by unfold fT; decide) (by unfold aT3; omega)
    try rw [xf_8_2 hx1]
    refine hx_bs ?_
    try rw [hx1.c9]
    refine hx_bs ?_
    try rw [cr_tokenFrom h1 hx1 g3, ← etk]
    refine hx_cs ?_
    try rw [sm_st (σ := wA σ (x + 68) k (nI s)) k67 (show k < sN σ (x + 67) by omega) (by omega)]
    refine hx_bs ?_
    have hR2 := hR1.tr (rX.wA (o := 67) (j := k) (v := nI (tk t k).1) (F := fT) (A := aT3) (Or.inl rfl)) (fun f q => q) (fun o q => q)
    try rw [sm_add, sm_pI (show sK (wA (wA σ (x + 68) k (nI s)) (x + 67) k (nI (tk t k).1)) (x + 65) = 8 + 1 from hx.k9)]
    refine hx_bs ?_
    have hR3 := hR2.tr (rX.wI (k := fid 8 5) (v := nI (k + 1)) (F := fT) (A := aT3) rfl) (fun f q => q) (fun o q => q)
    have w1 : sA (wI (wA (wA σ (x + 68) k (nI s)) (x + 67) k (nI (tk t k).1)) (fid 8 5) (x + 65) (nI (k + 1))) (x + 67) k = nI (tk t k).1 := sA_wA_eq
    have w2 : sA (wI (wA (wA σ (x + 68) k (nI s)) (x + 67) k (nI (tk t k).1)) (fid 8 5) (x + 65) (nI (k + 1))) (x + 68) k = nI s := by
      show sA (wA (wA σ (x + 68) k (nI s)) (x + 67) k (nI (tk t k).1)) (x + 68) k = nI s
      rw [sA_wA_b (by omega)]
      exact sA_wA_eq
    have w3 : ∀ j, j ≠ k → RKr σ x t j → RKr (wI (wA (wA σ (x + 68) k (nI s)) (x + 67) k (nI (tk t k).1)) (fid 8 5) (x + 65) (nI (k + 1))) x t j := by
      intro j hj q
      unfold RKr at q ⊢
      show sA (wA (wA σ (x + 68) k (nI s)) (x + 67) k (nI (tk t k).1)) (x + 67) j = _ ∧ sA (wA (wA σ (x + 68) k (nI s)) (x + 67) k (nI (tk t k).1)) (x + 68) j = _ ∧ (_ → sA (wA (wA σ (x + 68) k (nI s)) (x + 67) k (nI (tk t k).1)) (x + 69) j = _)
      rw [sA_wA_j hj, sA_wA_b (by omega), sA_wA_b (show x + 68 ≠ x + 67 by omega), sA_wA_j hj, sA_wA_b (show x + 69 ≠ x + 67 by omega), sA_wA_b (show x + 69 ≠ x + 68 by omega)]
      exact q
    have w4 : sI (wI (wA (wA σ (x + 68) k (nI s)) (x + 67) k (nI (tk t k).1)) (fid 8 5) (x + 65) (nI (k + 1))) (fid 8 5) (x + 65) = nI (k + 1) := sI_wI_eq
    have hR4 := hR.tr hR3 (fun f q => q) (fun o q => q)
    have hx4 := hx.rX hR3
    have h4 := h.rX hR3 (by unfold fT; decide) (by unfold aT3; omega)
    generalize wI (wA (wA σ (x + 68) k (nI s)) (x + 67) k (nI (tk t k).1)) (fid 8 5) (x + 65) (nI (k + 1)) = σ4 at *
    have n674 : sN σ4 (x + 67) = 201 := hx4.nn 67 201 (by decide)
    have n694 : sN σ4 (x + 69) = 201 := hx4.nn 69 201 (by decide)
    have k674 : sK σ4 (x + 67) = 100 := hx4.kd 67 100 (by decide)
    have k694 : sK σ4 (x + 69) = 100 := hx4.kd 69 100 (by decide)
    have ld : ldI σ4 (x + 67) (nI k) = some (nI (tk t k).1) := by rw [sm_ld k674 (by omega) (by omega), w1]
    have fin : ¬ gon (tk t k) → (∃ m, Ntk t m ∧ RK σ4 x t m) := by
      intro q
      refine ⟨k + 1, ⟨by omega, fun j hj => hg j (by omega), q⟩, w4, fun i hi => ?_⟩
      by_cases e : i = k
      · subst e
        refine ⟨w1, by rw [w2, e1], fun q2 => ?_⟩
        exfalso
        exact q ⟨by omega, by omega⟩
      · exact w3 i e (hr i (by omega))
    try rw [xf_8_2 hx4]
    refine hx_bs ?_
    try rw [ld]
    refine hx_bs (Hx.ce (sm_eq (by omega) (by omega)) (fun c1 => ?_) (fun c1 => ?_))
    · exact Hx.ret ⟨hR4, fin (fun q => q.1 c1)⟩
    try rw [xf_8_2 hx4]
    refine hx_bs ?_
    try rw [ld]
    refine hx_bs (Hx.ce (sm_eq (by omega) (by omega)) (fun c2 => ?_) (fun c2 => ?_))
    · exact Hx.ret ⟨hR4, fin (fun q => q.2 c2)⟩
    have hgk : gon (tk t k) := ⟨c1, c2⟩
    have next : ∀ σ5, rX x fT aT3 σ0 σ5 → RT σ5 x t → XS σ5 x → sA σ5 (x + 67) k = nI (tk t k).1 → (∀ j, j < k + 1 → RKr σ5 x t j) → Hx (fX4_findTokens_116 (fX4_findTokens_9 n) σ5 (x + 65) (nI s) (nI k)) (fun σ' _ => rX x fT aT3 σ0 σ' ∧ ∃ m, Ntk t m ∧ RK σ' x t m) := by
      intro σ5 hR5 h5 hx5 g5 r5
      have n675 : sN σ5 (x + 67) = 201 := hx5.nn 67 201 (by decide)
      try rw [n_fX4_findTokens_116, xf_8_2 hx5]
      refine hx_bs ?_
      try rw [sm_ld (hx5.kd 67 100 (by decide)) (by omega) (by omega), g5]
      refine hx_bs ?_
      try rw [hx5.c9]
      refine hx_bs ?_
      rw [etk] at hgk ⊢
      try rw [cr_endOfToken h5 hx5 g3 hgk]
      refine hx_cs (hx_nm ?_)
      rw [sm_add]
      have e9 : (lxs t s).2.2.2 = tkp t (k + 1) := by rw [← etk]; exact b2
      rw [e9]
      refine ih (k + 1) σ5 (by omega) hR5 h5 hx5 (fun j hj => ?_) r5
      by_cases e : j = k
      · subst e; rw [etk]; exact hgk
      · exact hg j (by omega)
    try rw [xf_8_2 hx4]
    refine hx_bs ?_
    try rw [ld]
    refine hx_bs (Hx.ce (sm_eq (by omega) (by omega)) (fun c3 => ?_) (fun c3 => ?_))
    · try rw [xf_8_4 hx4]
      refine hx_bs ?_
      try rw [hx4.c9]
      refine hx_bs ?_
      try rw [cr_wordFrom h4 hx4 g3]
      refine hx_cs ?_
      try rw [sm_st k694 (by omega) (by omega)]
      refine hx_bs ?_
      have hR5 := hR4.tr (rX.wA (o := 69) (j := k) (v := nI (wvf t 6 s 0)) (F := fT) (A := aT3) (Or.inr (Or.inr rfl))) (fun f q => q) (fun o q => q)
      have hR6 : rX x fT aT3 σ4 (wA σ4 (x + 69) k (nI (wvf t 6 s 0))) := rX.wA (Or.inr (Or.inr rfl))
      refine next _ hR5 (h4.rX hR6 (by unfold fT; decide) (by unfold aT3; omega)) (hx4.rX hR6) (by rw [sA_wA_b (by omega)]; exact w1) (fun j hj => ?_)
      by_cases e : j = k
      · subst e
        refine ⟨by rw [sA_wA_b (by omega)]; exact w1, by rw [sA_wA_b (by omega), e1]; exact w2, fun _ => ?_⟩
        rw [sA_wA_eq, etk, (lxs_1 (by rw [← etk]; exact c3)).1]
      · obtain ⟨q1, q2, q3⟩ := w3 j e (hr j (by omega))
        refine ⟨by rw [sA_wA_b (by omega)]; exact q1, by rw [sA_wA_b (by omega)]; exact q2, fun q => ?_⟩
        rw [sA_wA_j e]
        exact q3 q
    · refine next _ hR4 h4 hx4 w1 (fun j hj => ?_)
      by_cases e : j = k
      · subst e
        exact ⟨w1, by rw [e1]; exact w2, fun q => absurd q c3⟩
      · exact w3 j e (hr j (by omega))
theorem cr_findTokens {σ : St} {x : Nat} {t : List Nat} (h : RT σ x t) (hx : XS σ x) : Hx (fX4_findTokens σ (x + 65)) (fun σ' _ => rX x fT aT3 σ σ' ∧ ∃ m, Ntk t m ∧ RK σ' x t m) := by
  try rw [n_fX4_findTokens, sm_pI hx.k9]
  refine hx_bs ?_
  have hR : rX x fT aT3 σ (wI σ (fid 8 5) (x + 65) (nI 0)) := rX.wI rfl
  exact cr_ft9 FU 0 _ (by decide) hR (h.rX hR (by unfold fT; decide) (by unfold aT3; omega)) (hx.rX hR) (fun j hj => absurd hj (Nat.not_lt_zero _)) (fun j hj => absurd hj (Nat.not_lt_zero _))
