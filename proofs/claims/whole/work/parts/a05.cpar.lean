/-! ===== the class' Reader at a token: what it has read ===== -/
theorem KWs.rX {x : Nat} {F A : Nat → Prop} {σ σ' : St} (h : KWs σ x) (hR : rX x F A σ σ') : KWs σ' x := by
  obtain ⟨a, h1, h2, h3, h4, h5⟩ := h
  obtain ⟨⟨a1, a2, a3, a4, a5⟩, ⟨a6, a7, a8⟩, a9, a10⟩ := hR
  exact ⟨a, by rw [a2]; exact h1, h2, by rw [a1]; exact h3, by rw [a3]; exact h4, fun i w hw => by rw [a10 a (fun o _ => by omega)]; exact h5 i w hw⟩
def cnv (L : List It) : Nat := (L.filter fun it => it.1 == 30).length
theorem cnv_app (L M : List It) : cnv (L ++ M) = cnv L + cnv M := by
  unfold cnv
  rw [List.filter_append, List.length_append]
theorem cnv_le (L : List It) : cnv L ≤ L.length := List.length_filter_le _ _
theorem cnv_1 {it : It} : cnv [it] = if it.1 = 30 then 1 else 0 := by
  unfold cnv
  rw [List.filter_cons]
  by_cases c : it.1 = 30
  · rw [if_pos c, if_pos (by rw [c]; rfl)]; rfl
  · rw [if_neg c, if_neg (by simpa using c)]; rfl
/-- an item in the Reader's rows -/
def Lrow (σ : St) (x j : Nat) (it : It) (nv : Nat) : Prop := sA σ (x + 70) j = nI (ckd it) ∧ sA σ (x + 71) j = nI (if it.1 = 30 then nv else it.2.1) ∧ sA σ (x + 72) j = nI it.2.2.2.1 ∧ sA σ (x + 73) j = nI it.2.2.1
def Prm (σ : St) (x : Nat) (ps : List Nat) : Prop := sI σ (fid 8 17) (x + 65) = nI ps.length ∧ ps.length ≤ 4 ∧ ∀ k w, ps[k]? = some w → sA σ (x + 74) k = nI w ∧ w < 2147483648
/-- the text, its n tokens, the parameters -/
def RB (σ : St) (x : Nat) (t ps : List Nat) (n : Nat) : Prop := (XS σ x ∧ KWs σ x) ∧ (RT σ x t ∧ RK σ x t n ∧ Ntk t n) ∧ Prm σ x ps
/-- at the token i, the items L, nc numbers -/
def RP (σ : St) (x : Nat) (t ps : List Nat) (n i : Nat) (L : List It) (nc : Nat) : Prop := RB σ x t ps n ∧ (sI σ (fid 8 6) (x + 65) = nI i ∧ i < n) ∧ sI σ (fid 8 11) (x + 65) = nI L.length ∧ sI σ (fid 8 12) (x + 65) = nI nc ∧ ∀ j it, L[j]? = some it → Lrow σ x j it (cnv (L.take j))
def fP (f : Nat) : Prop := f = fid 8 6 ∨ f = fid 8 11 ∨ f = fid 8 12
def aP (o : Nat) : Prop := 70 ≤ o ∧ o ≤ 73
theorem RB.rX {σ σ' : St} {x n : Nat} {t ps : List Nat} (h : RB σ x t ps n) (hR : rX x fP aP σ σ') : RB σ' x t ps n := by
  obtain ⟨⟨h1, h2⟩, ⟨h3, ⟨h4, h5⟩, h6⟩, h7, h8, h9⟩ := h
  refine ⟨⟨h1.rX hR, h2.rX hR⟩, ⟨h3.rX hR (by unfold fP; decide) (by unfold aP; omega), ⟨by rw [hR.i (by unfold fP; decide)]; exact h4, fun i hi => ?_⟩, h6⟩, by rw [hR.i (by unfold fP; decide)]; exact h7, h8, fun k w hk => by rw [hR.a (by unfold aP; omega)]; exact h9 k w hk⟩
  obtain ⟨q1, q2, q3⟩ := h5 i hi
  exact ⟨by rw [hR.a (by unfold aP; omega)]; exact q1, by rw [hR.a (by unfold aP; omega)]; exact q2, fun q => by rw [hR.a (by unfold aP; omega)]; exact q3 q⟩
theorem RB.n {σ : St} {x n : Nat} {t ps : List Nat} (h : RB σ x t ps n) : n ≤ 201 := by
  have h1 := h.2.1.2.2.le
  have h2 := h.2.1.1.1.2
  omega
theorem cp_tok {σ : St} {x n j : Nat} {t ps : List Nat} (h : RB σ x t ps n) (hj : j < 2147483648) : fX4_tokenAt σ (x + 65) (nI j) = some (σ, nI (if j < n then (tk t j).1 else 0)) := by
  have hn := h.n
  obtain ⟨⟨hx, _⟩, ⟨_, ⟨h4, h5⟩, h6⟩, _⟩ := h
  apply hx_eq
  rw [n_fX4_tokenAt]
  refine Hx.ce (sm_lt (by omega) (by omega)) (fun c => absurd c (by omega)) (fun _ => ?_)
  try rw [(sm_gI hx.k9).trans (congrArg some h4)]
  refine hx_bs (Hx.ce (sm_le (by omega) (by omega)) (fun c => ?_) (fun c => ?_))
  · rw [if_neg (by omega)]; exact Hx.ret ⟨rfl, rfl⟩
  · try rw [if_pos (by omega), xf_8_2 hx]
    refine hx_bs ?_
    try rw [sm_ld (hx.kd 67 100 (by decide)) (by rw [hx.nn 67 201 (by decide)]; omega) (by omega), (h5 j (by omega)).1]
    exact hx_bs (Hx.ret ⟨rfl, rfl⟩)
theorem cp_tk {σ : St} {x n j : Nat} {t ps : List Nat} (h : RB σ x t ps n) (hj : j < n) : fX4_tokenAt σ (x + 65) (nI j) = some (σ, nI (tk t j).1) := by
  have hn := h.n
  rw [cp_tok h (by omega), if_pos hj]
theorem cp_start {σ : St} {x n j : Nat} {t ps : List Nat} (h : RB σ x t ps n) (hj : j < n) : fX4_startAt σ (x + 65) (nI j) = some (σ, nI (tk t j).2.2.1) := by
  have hn := h.n
  obtain ⟨⟨hx, _⟩, ⟨_, ⟨h4, h5⟩, h6⟩, _⟩ := h
  apply hx_eq
  rw [n_fX4_startAt]
  refine Hx.ce (sm_lt (by omega) (by omega)) (fun c => absurd c (by omega)) (fun _ => ?_)
  try rw [(sm_gI hx.k9).trans (congrArg some h4)]
  refine hx_bs (Hx.ce (sm_le (by omega) (by omega)) (fun c => absurd hj (by omega)) (fun c => ?_))
  try rw [xf_8_3 hx]
  refine hx_bs ?_
  try rw [sm_ld (hx.kd 68 100 (by decide)) (by rw [hx.nn 68 201 (by decide)]; omega) (by omega), (h5 j (by omega)).2.1]
  exact hx_bs (Hx.ret ⟨rfl, rfl⟩)
theorem cp_word {σ : St} {x n j : Nat} {t ps : List Nat} (h : RB σ x t ps n) (hj : j < n) (h1 : (tk t j).1 = 1) : fX4_wordAt σ (x + 65) (nI j) = some (σ, nI (tk t j).2.1) := by
  have hn := h.n
  obtain ⟨⟨hx, _⟩, ⟨_, ⟨h4, h5⟩, h6⟩, _⟩ := h
  apply hx_eq
  rw [n_fX4_wordAt]
  refine Hx.ce (sm_lt (by omega) (by omega)) (fun c => absurd c (by omega)) (fun _ => ?_)
  try rw [(sm_gI hx.k9).trans (congrArg some h4)]
  refine hx_bs (Hx.ce (sm_le (by omega) (by omega)) (fun c => absurd hj (by omega)) (fun c => ?_))
  try rw [xf_8_4 hx]
  refine hx_bs ?_
  try rw [sm_ld (hx.kd 69 100 (by decide)) (by rw [hx.nn 69 201 (by decide)]; omega) (by omega), (h5 j (by omega)).2.2 h1]
  exact hx_bs (Hx.ret ⟨rfl, rfl⟩)
theorem fix_first {ws : List Nat} {w k : Nat} (h : ws[k]? = some w) (h2 : ∀ j, j < k → ws[j]? ≠ some w) : fix ws w = some k := by
  unfold fix
  rw [List.findIdx?_eq_some_iff_getElem]
  obtain ⟨h3, h4⟩ := List.getElem?_eq_some_iff.mp h
  refine ⟨h3, by rw [h4]; exact beq_self_eq_true w, fun j hj => ?_⟩
  have := h2 j hj
  rw [List.getElem?_eq_getElem (by omega)] at this
  intro q
  exact this (congrArg some (eq_of_beq q))
theorem fix_no {ws : List Nat} {w : Nat} (h2 : ∀ j, j < ws.length → ws[j]? ≠ some w) : fix ws w = none := by
  cases h : fix ws w with
  | none => rfl
  | some k => exact absurd (fix_get h) (h2 k (fix_lt h))
theorem cp_param_2 {σ : St} {x w : Nat} {ps : List Nat} (hx : XS σ x) (h : Prm σ x ps) (hw : w < 2147483648) : ∀ (n k : Nat), ps.length - k < n → k ≤ ps.length → (∀ j, j < k → ps[j]? ≠ some w) → fX4_parameterOf_2 n σ (x + 65) (nI w) (nI k) = some (σ, iz (oi (fix ps w))) := by
  obtain ⟨h1, h2, h3⟩ := h
  intro n
  induction n with
  | zero => intro k h; omega
  | succ n ih =>
    intro k hn hk hj
    have n74 : sN σ (x + 74) = 4 := hx.nn 74 4 (by decide)
    have k74 : sK σ (x + 74) = 100 := hx.kd 74 100 (by decide)
    apply hx_eq
    try rw [n_fX4_parameterOf_2, (sm_gI hx.k9).trans (congrArg some h1)]
    refine hx_bs (Hx.ce (sm_le (by omega) (by omega)) (fun c => ?_) (fun c => ?_))
    · rw [fix_no (fun j hj2 => hj j (by omega))]; exact Hx.ret ⟨rfl, rfl⟩
    · try rw [xf_8_16 hx]
      refine hx_bs ?_
      try rw [sm_aln k74 ⟨by omega, by omega⟩, n74]
      refine hx_bs (Hx.ce (sm_le (by omega) (by omega)) (fun c2 => absurd c2 (by omega)) (fun _ => ?_))
      refine hx_bs ?_
      have hp := List.getElem?_eq_getElem (show k < ps.length by omega)
      obtain ⟨g1, g2⟩ := h3 k _ hp
      try rw [sm_ld k74 (by omega) (by omega), g1]
      refine hx_bs (Hx.ce (sm_eq g2 hw) (fun c3 => ?_) (fun c3 => ?_))
      · rw [fix_first (k := k) (by rw [hp, c3]) hj]; exact Hx.ret ⟨rfl, sm_iz _⟩
      · refine hx_nm ?_
        rw [sm_add, ih (k + 1) (by omega) (by omega) (fun j hj2 => ?_)]
        · exact Hx.ret ⟨rfl, rfl⟩
        · by_cases e : j = k
          · subst e; rw [hp]; exact fun q => c3 (Option.some.inj q)
          · exact hj j (by omega)
theorem cp_param {σ : St} {x w : Nat} {ps : List Nat} (hx : XS σ x) (h : Prm σ x ps) (hw : w < 2147483648) : fX4_parameterOf σ (x + 65) (nI w) = some (σ, iz (oi (fix ps w))) := by
  rw [n_fX4_parameterOf]
  exact cp_param_2 hx h hw FU 0 (by have := h.2.1; show ps.length - 0 < 4294967296; omega) (by omega) (fun j hj => absurd hj (Nat.not_lt_zero _))
theorem RP.g {σ : St} {x n i nc : Nat} {t ps : List Nat} {L : List It} (h : RP σ x t ps n i L nc) : gI σ 8 6 (x + 65) = some (nI i) ∧ gI σ 8 5 (x + 65) = some (nI n) ∧ gI σ 8 12 (x + 65) = some (nI nc) ∧ ckK σ 9 (x + 65) = some () := by
  have hx := h.1.1.1
  exact ⟨(sm_gI hx.k9).trans (congrArg some h.2.1.1), (sm_gI hx.k9).trans (congrArg some h.1.2.1.2.1.1), (sm_gI hx.k9).trans (congrArg some h.2.2.2.1), hx.c9⟩
/-- to the next token -/
theorem RP.nx {σ : St} {x n i nc : Nat} {t ps : List Nat} {L : List It} (h : RP σ x t ps n i L nc) (hg : gon (tk t i)) : pI σ 8 6 (x + 65) (nI i + nI 1) = some (wI σ (fid 8 6) (x + 65) (nI (i + 1))) ∧ rX x fP aP σ (wI σ (fid 8 6) (x + 65) (nI (i + 1))) ∧ RP (wI σ (fid 8 6) (x + 65) (nI (i + 1))) x t ps n (i + 1) L nc := by
  have hR : rX x fP aP σ (wI σ (fid 8 6) (x + 65) (nI (i + 1))) := rX.wI (Or.inl rfl)
  obtain ⟨hb, ⟨h1, h2⟩, h3, h4, h5⟩ := h
  exact ⟨by rw [sm_add, sm_pI hb.1.1.k9], hR, hb.rX hR, ⟨sI_wI_eq, hb.2.1.2.2.nx h2 hg⟩, (sI_wI_f (by decide)).trans h3, (sI_wI_f (by decide)).trans h4, h5⟩
/-- one number more -/
theorem RP.nc {σ : St} {x n i nc : Nat} {t ps : List Nat} {L : List It} (h : RP σ x t ps n i L nc) : pI σ 8 12 (x + 65) (nI nc + nI 1) = some (wI σ (fid 8 12) (x + 65) (nI (nc + 1))) ∧ rX x fP aP σ (wI σ (fid 8 12) (x + 65) (nI (nc + 1))) ∧ RP (wI σ (fid 8 12) (x + 65) (nI (nc + 1))) x t ps n i L (nc + 1) := by
  have hR : rX x fP aP σ (wI σ (fid 8 12) (x + 65) (nI (nc + 1))) := rX.wI (Or.inr (Or.inr rfl))
  obtain ⟨hb, ⟨h1, h2⟩, h3, h4, h5⟩ := h
  exact ⟨by rw [sm_add, sm_pI hb.1.1.k9], hR, hb.rX hR, ⟨(sI_wI_f (by decide)).trans h1, h2⟩, (sI_wI_f (by decide)).trans h3, sI_wI_eq, h5⟩
theorem cp_emit {σ : St} {x n i nc kn : Nat} {t ps : List Nat} {L : List It} {it : It} {ov pv cv : Int32} (h : RP σ x t ps n i L nc) (hl : L.length < 200) (hk : ckd it = kn) (ho : ov = nI (if it.1 = 30 then cnv L else it.2.1)) (hp : pv = nI it.2.2.2.1) (hc : cv = nI it.2.2.1) :
    Hx (fX4_emit σ (x + 65) (nI kn) ov pv cv) (fun σ' _ => rX x fP aP σ σ' ∧ RP σ' x t ps n i (L ++ [it]) nc) := by
  obtain ⟨hb, ⟨h1, h2⟩, h3, h4, h5⟩ := h
  have hx := hb.1.1
  have k9 := hx.k9
  subst hk ho hp hc
  generalize hkn : ckd it = kv
  generalize hov : (if it.1 = 30 then cnv L else it.2.1) = ov
  generalize hpv : it.2.2.2.1 = pv
  generalize hcv : it.2.2.1 = cv
  have g11 : gI σ 8 11 (x + 65) = some (nI L.length) := (sm_gI k9).trans (congrArg some h3)
  have w1 : stI σ (x + 70) (nI L.length) (nI kv) = some (wA σ (x + 70) L.length (nI kv)) := sm_st (hx.kd 70 100 (by decide)) (by rw [hx.nn 70 200 (by decide)]; omega) (by omega)
  have w2 : stI (wA σ (x + 70) L.length (nI kv)) (x + 71) (nI L.length) (nI ov) = some (wA (wA σ (x + 70) L.length (nI kv)) (x + 71) L.length (nI ov)) := sm_st (σ := wA σ (x + 70) L.length (nI kv)) (hx.kd 71 100 (by decide)) (by show L.length < sN σ (x + 71); rw [hx.nn 71 200 (by decide)]; omega) (by omega)
  have w3 : stI (wA (wA σ (x + 70) L.length (nI kv)) (x + 71) L.length (nI ov)) (x + 72) (nI L.length) (nI pv) = some (wA (wA (wA σ (x + 70) L.length (nI kv)) (x + 71) L.length (nI ov)) (x + 72) L.length (nI pv)) := sm_st (σ := wA (wA σ (x + 70) L.length (nI kv)) (x + 71) L.length (nI ov)) (hx.kd 72 100 (by decide)) (by show L.length < sN σ (x + 72); rw [hx.nn 72 200 (by decide)]; omega) (by omega)
  have w4 : stI (wA (wA (wA σ (x + 70) L.length (nI kv)) (x + 71) L.length (nI ov)) (x + 72) L.length (nI pv)) (x + 73) (nI L.length) (nI cv) = some (wA (wA (wA (wA σ (x + 70) L.length (nI kv)) (x + 71) L.length (nI ov)) (x + 72) L.length (nI pv)) (x + 73) L.length (nI cv)) := sm_st (σ := wA (wA (wA σ (x + 70) L.length (nI kv)) (x + 71) L.length (nI ov)) (x + 72) L.length (nI pv)) (hx.kd 73 100 (by decide)) (by show L.length < sN σ (x + 73); rw [hx.nn 73 200 (by decide)]; omega) (by omega)
  have r1 : rX x fP aP σ (wA σ (x + 70) L.length (nI kv)) := rX.wA (by unfold aP; omega)
  have r2 := r1.tr (rX.wA (o := 71) (j := L.length) (v := nI ov) (F := fP) (A := aP) (by unfold aP; omega)) (fun f q => q) (fun o q => q)
  have r3 := r2.tr (rX.wA (o := 72) (j := L.length) (v := nI pv) (F := fP) (A := aP) (by unfold aP; omega)) (fun f q => q) (fun o q => q)
  have r4 := r3.tr (rX.wA (o := 73) (j := L.length) (v := nI cv) (F := fP) (A := aP) (by unfold aP; omega)) (fun f q => q) (fun o q => q)
  have r5 := r4.tr (rX.wI (k := fid 8 11) (v := nI (L.length + 1)) (F := fP) (A := aP) (Or.inr (Or.inl rfl))) (fun f q => q) (fun o q => q)
  have fin : RP (wI (wA (wA (wA (wA σ (x + 70) L.length (nI kv)) (x + 71) L.length (nI ov)) (x + 72) L.length (nI pv)) (x + 73) L.length (nI cv)) (fid 8 11) (x + 65) (nI (L.length + 1))) x t ps n i (L ++ [it]) nc := by
    refine ⟨hb.rX r5, ⟨(sI_wI_f (by decide)).trans h1, h2⟩, ?_, (sI_wI_f (by decide)).trans h4, fun j it' hj => ?_⟩
    · rw [List.length_append, List.length_singleton]; exact sI_wI_eq
    · unfold Lrow
      show sA (wA (wA (wA (wA σ (x + 70) L.length (nI kv)) (x + 71) L.length (nI ov)) (x + 72) L.length (nI pv)) (x + 73) L.length (nI cv)) (x + 70) j = _ ∧ sA (wA (wA (wA (wA σ (x + 70) L.length (nI kv)) (x + 71) L.length (nI ov)) (x + 72) L.length (nI pv)) (x + 73) L.length (nI cv)) (x + 71) j = _ ∧ sA (wA (wA (wA (wA σ (x + 70) L.length (nI kv)) (x + 71) L.length (nI ov)) (x + 72) L.length (nI pv)) (x + 73) L.length (nI cv)) (x + 72) j = _ ∧ sA (wA (wA (wA (wA σ (x + 70) L.length (nI kv)) (x + 71) L.length (nI ov)) (x + 72) L.length (nI pv)) (x + 73) L.length (nI cv)) (x + 73) j = _
      by_cases e : j < L.length
      · rw [List.getElem?_append_left e] at hj
        have q := h5 j it' hj
        unfold Lrow at q
        rw [List.take_append_of_le_length (by omega), sA_wA_j (by omega), sA_wA_j (by omega), sA_wA_j (by omega), sA_wA_j (by omega), sA_wA_j (by omega), sA_wA_j (by omega), sA_wA_j (by omega), sA_wA_j (by omega), sA_wA_j (by omega), sA_wA_j (by omega), sA_wA_j (by omega), sA_wA_j (by omega), sA_wA_j (by omega), sA_wA_j (by omega), sA_wA_j (by omega), sA_wA_j (by omega)]
        exact q
      · have hjl := (List.getElem?_eq_some_iff.mp hj).1
        rw [List.length_append, List.length_singleton] at hjl
        obtain rfl : j = L.length := by omega
        rw [List.getElem?_append_right (by omega), Nat.sub_self] at hj
        have hj9 : it = it' := Option.some.inj hj
        subst hj9
        rw [List.take_left, hkn, hov, hpv, hcv]
        refine ⟨?_, ?_, ?_, ?_⟩
        · rw [sA_wA_b (by omega), sA_wA_b (by omega), sA_wA_b (by omega)]; exact sA_wA_eq
        · rw [sA_wA_b (by omega), sA_wA_b (by omega)]; exact sA_wA_eq
        · rw [sA_wA_b (by omega)]; exact sA_wA_eq
        · exact sA_wA_eq
  try rw [n_fX4_emit, g11]
  refine hx_bs ?_
  try rw [xf_8_7 hx]
  refine hx_bs ?_
  try rw [sm_aln (hx.kd 70 100 (by decide)) ⟨by omega, by omega⟩, hx.nn 70 200 (by decide)]
  refine hx_bs (Hx.ce (sm_le (by omega) (by omega)) (fun c => absurd c (by omega)) (fun _ => ?_))
  refine hx_bs ?_
  refine hx_bs ?_
  try rw [w1]
  refine hx_bs ?_
  try rw [xf_8_8 (hx.rX r1)]
  refine hx_bs ?_
  try rw [show gI (wA σ (x + 70) L.length (nI kv)) 8 11 (x + 65) = some (nI L.length) from g11]
  refine hx_bs ?_
  try rw [w2]
  refine hx_bs ?_
  try rw [xf_8_9 (hx.rX r2)]
  refine hx_bs ?_
  try rw [show gI (wA (wA σ (x + 70) L.length (nI kv)) (x + 71) L.length (nI ov)) 8 11 (x + 65) = some (nI L.length) from g11]
  refine hx_bs ?_
  try rw [w3]
  refine hx_bs ?_
  try rw [xf_8_10 (hx.rX r3)]
  refine hx_bs ?_
  try rw [show gI (wA (wA (wA σ (x + 70) L.length (nI kv)) (x + 71) L.length (nI ov)) (x + 72) L.length (nI pv)) 8 11 (x + 65) = some (nI L.length) from g11]
  refine hx_bs ?_
  try rw [w4]
  refine hx_bs ?_
  try rw [show gI (wA (wA (wA (wA σ (x + 70) L.length (nI kv)) (x + 71) L.length (nI ov)) (x + 72) L.length (nI pv)) (x + 73) L.length (nI cv)) 8 11 (x + 65) = some (nI L.length) from g11]
  refine hx_bs ?_
  try rw [sm_add, sm_pI (show sK (wA (wA (wA (wA σ (x + 70) L.length (nI kv)) (x + 71) L.length (nI ov)) (x + 72) L.length (nI pv)) (x + 73) L.length (nI cv)) (x + 65) = 8 + 1 from k9)]
  exact hx_bs (Hx.ret ⟨r5, fin⟩)
