/-! ===== the class' Reader at a token: what it has read ===== -/
theorem KWs.rX {x : Nat} {F A : Nat → Prop} {σ σ' : St} (h : KWs σ x) (hR : rX x F A σ σ') : KWs σ' x := by
  obtain ⟨a, h1, h2, h3, h4, h5⟩ := h
  obtain ⟨⟨a1, a2, a3, a4, a5⟩, ⟨a6, a7, a8⟩, a9, a10⟩ := hR
  exact ⟨a, by rw [a2]; exact h1, h2, by rw [a1]; exact h3, by rw [a3]; exact h4, fun i w hw => by rw [a10 a (fun o _ => by omega)]; exact h5 i w hw⟩
def cnv (L : List It) : Nat := (L.filter fun it => it.1 == 30).length
theorem cnv_app (L M : List It) : cnv (L ++ M) = cnv L + cnv M := by
  unfold cnv
  rw [List.filter_append, List.length_append]
theorem cnv_le (L : List It) : cnv L ≤ L.length := List.length_filter_le _ _
theorem cnv_1 {it : It} : cnv [it] = if it.1 = 30 then 1 else 0 := by
  unfold cnv
  rw [List.filter_cons]
  by_cases c : it.1 = 30
  · rw [if_pos c, if_pos (by rw [c]; rfl)]; rfl
  · rw [if_neg c, if_neg (by simpa using c)]; rfl
/-- an item in the Reader's rows -/
def Lrow (σ : St) (x j : Nat) (it : It) (nv : Nat) : Prop := sA σ (x + 70) j = nI (ckd it) ∧ sA σ (x + 71) j = nI (if it.1 = 30 then nv else it.2.1) ∧ sA σ (x + 72) j = nI it.2.2.2.1 ∧ sA σ (x + 73) j = nI it.2.2.1
def Prm (σ : St) (x : Nat) (ps : List Nat) : Prop := sI σ (fid 8 17) (x + 65) = nI ps.length ∧ ps.length ≤ 4 ∧ ∀ k w, ps[k]? = some w → sA σ (x + 74) k = nI w ∧ w < 2147483648
/-- the text, its n tokens, the parameters -/
def RB (σ : St) (x : Nat) (t ps : List Nat) (n : Nat) : Prop := (XS σ x ∧ KWs σ x) ∧ (RT σ x t ∧ RK σ x t n ∧ Ntk t n) ∧ Prm σ x ps
/-- at the token i, the items L, nc numbers -/
def RP (σ : St) (x : Nat) (t ps : List Nat) (n i : Nat) (L : List It) (nc : Nat) : Prop := RB σ x t ps n ∧ (sI σ (fid 8 6) (x + 65) = nI i ∧ i < n) ∧ sI σ (fid 8 11) (x + 65) = nI L.length ∧ sI σ (fid 8 12) (x + 65) = nI nc ∧ ∀ j it, L[j]? = some it → Lrow σ x j it (cnv (L.take j))
def fP (f : Nat) : Prop := f = fid 8 6 ∨ f = fid 8 11 ∨ f = fid 8 12
def aP (o : Nat) : Prop := 70 ≤ o ∧ o ≤ 73
theorem RB.rX {σ σ' : St} {x n : Nat} {t ps : List Nat} (h : RB σ x t ps n) (hR : rX x fP aP σ σ') : RB σ' x t ps n := by
  obtain ⟨⟨h1, h2⟩, ⟨h3, ⟨h4, h5⟩, h6⟩, h7, h8, h9⟩ := h
  refine ⟨⟨h1.rX hR, h2.rX hR⟩, ⟨h3.rX hR (by unfold fP; decide) (by unfold aP; omega), ⟨by rw [hR.i (by unfold fP; decide)]; exact h4, fun i hi => ?_⟩, h6⟩, by rw [hR.i (by unfold fP; decide)]; exact h7, h8, fun k w hk => by rw [hR.a (by unfold aP; omega)]; exact h9 k w hk⟩
  obtain ⟨q1, q2, q3⟩ := h5 i hi
  exact ⟨by rw [hR.a (by unfold aP; omega)]; exact q1, by rw [hR.a (by unfold aP; omega)]; exact q2, fun q => by rw [hR.a (by unfold aP; omega)]; exact q3 q⟩
theorem RB.n {σ : St} {x n : Nat} {t ps : List Nat} (h : RB σ x t ps n) : n ≤ 201 := by
  have h1 := h.2.1.2.2.le
  have h2 := h.2.1.1.1.2
  omega
theorem cp_tok {σ : St} {x n j : Nat} {t ps : List Nat} (h : RB σ x t ps n) (hj : j < 2147483648) : fX4_tokenAt σ (x + 65) (nI j) = some (σ, nI (if j < n then (tk t j).1 else 0)) := by
  have hn := h.n
  obtain ⟨⟨hx, _⟩, ⟨_, ⟨h4, h5⟩, h6⟩, _⟩ := h
  apply hx_eq
  rw [n_fX4_tokenAt]
  refine Hx.ce (sm_lt (by omega) (by omega)) (fun c => absurd c (by omega)) (fun _ => ?_)
  try rw [(sm_gI hx.k9).trans (congrArg some h4)]
  refine hx_bs (Hx.ce (sm_le (by omega) (by omega)) (fun c => ?_) (fun c => ?_))
  · rw [if_neg (by omega)]; exact Hx.ret ⟨rfl, rfl⟩
  · try rw [if_pos (by omega), xf_8_2 hx]
    refine hx_bs ?_
    try rw [sm_ld (hx.kd 67 100 (by decide)) (by rw [hx.nn 67 201 (by decide)]; omega) (by omega), (h5 j (by omega)).1]
    exact hx_bs (Hx.ret ⟨rfl, rfl⟩)
theorem cp_tk {σ : St} {x n j : Nat} {t ps : List Nat} (h : RB σ x t ps n) (hj : j < n) : fX4_tokenAt σ (x + 65) (nI j) = some (σ, nI (tk t j).1) := by
  have hn := h.n
  rw [cp_tok h (by omega), if_pos hj]
theorem cp_start {σ : St} {x n j : Nat} {t ps : List Nat} (h : RB σ x t ps n) (hj : j < n) : fX4_startAt σ (x + 65) (nI j) = some (σ, nI (tk t j).2.2.1) := by
  have hn := h.n
  obtain ⟨⟨hx, _⟩, ⟨_, ⟨h4, h5⟩, h6⟩, _⟩ := h
  apply hx_eq
  rw [n_fX4_startAt]
  refine Hx.ce (sm_lt (by omega) (by omega)) (fun c => absurd c (by omega)) (fun _ => ?_)
  try rw [(sm_gI hx.k9).trans (congrArg some h4)]
  refine hx_bs (Hx.ce (sm_le (by omega) (by omega)) (fun c => absurd hj (by omega)) (fun c => ?_))
  try rw [xf_8_3 hx]
  refine hx_bs ?_
  try rw [sm_ld (hx.kd 68 100 (by decide)) (by rw [hx.nn 68 201 (by decide)]; omega) (by omega), (h5 j (by omega)).2.1]
  exact hx_bs (Hx.ret ⟨rfl, rfl⟩)
theorem cp_word {σ : St} {x n j : Nat} {t ps : List Nat} (h : RB σ x t ps n) (hj : j < n) (h1 : (tk t j).1 = 1) : fX4_wordAt σ (x + 65) (nI j) = some (σ, nI (tk t j).2.1) := by
  have hn := h.n
  obtain ⟨⟨hx, _⟩, ⟨_, ⟨h4, h5⟩, h6⟩, _⟩ := h
  apply hx_eq
  rw [n_fX4_wordAt]
  refine Hx.ce (sm_lt (by omega) (by omega)) (fun c => absurd c (by omega)) (fun _ => ?_)
  try rw [(sm_gI hx.k9).trans (congrArg some h4)]
  refine hx_bs (Hx.ce (sm_le (by omega) (by omega)) (fun c => absurd hj (by omega)) (fun c => ?_))
  try rw [xf_8_4 hx]
  refine hx_bs ?_
  try rw [sm_ld (hx.kd 69 100 (by decide)) (by rw [hx.nn 69 201 (by decide)]; omega) (by omega), (h5 j (by omega)).2.2 h1]
  exact hx_bs (Hx.ret ⟨rfl, rfl⟩)
theorem fix_first {ws : List Nat} {w k : Nat} (h : ws[k]? = some w) (h2 : ∀ j, j < k → ws[j]? ≠ some w) : fix ws w = some k := by
  unfold fix
  rw [List.findIdx?_eq_some_iff_getElem]
  obtain ⟨h3, h4⟩ := List.getElem?_eq_some_iff.mp h
  refine ⟨h3, by rw [h4]; exact beq_self_eq_true w, fun j hj => ?_⟩
  have := h2 j hj
  rw [List.getElem?_eq_getElem (by omega)] at this
  intro q
  exact this (congrArg some (eq_of_beq q))
theorem fix_no {ws : List Nat} {w : Nat} (h2 : ∀ j, j < ws.length → ws[j]? ≠ some w) : fix ws w = none := by
  cases h : fix ws w with
  | none => rfl
  | some k => exact absurd (fix_get h) (h2 k (fix_lt h))
theorem cp_param_2 {σ : St} {x w : Nat} {ps : List Nat} (hx : XS σ x) (h : Prm σ x ps) (hw : w < 2147483648) : ∀ (n k : Nat), ps.length - k < n → k ≤ ps.length → (∀ j, j < k → ps[j]? ≠ some w) → fX4_parameterOf_2 n σ (x + 65) (nI w) (nI k) = some (σ, iz (oi (fix ps w))) := by
  obtain ⟨h1, h2, h3⟩ := h
  intro n
  induction n with
  | zero => intro k h; omega
  | succ n ih =>
    intro k hn hk hj
    have n74 : sN σ (x + 74) = 4 := hx.nn 74 4 (by decide)
    have k74 : sK σ (x + 74) = 100 := hx.kd 74 100 (by decide)
    apply hx_eq
    try rw [n_fX4_parameterOf_2, (sm_gI hx.k9).trans (congrArg some h1)]
    refine hx_bs (Hx.ce (sm_le (by omega) (by omega)) (fun c => ?_) (fun c => ?_))
    · rw [fix_no (fun j hj2 => hj j (by omega))]; exact Hx.ret ⟨rfl, rfl⟩
    · try rw [xf_8_16 hx]
      refine hx_bs ?_
      try rw [sm_aln k74 ⟨by omega, by omega⟩, n74]
      refine hx_bs (Hx.ce (sm_le (by omega) (by omega)) (fun c2 => absurd c2 (by omega)) (fun _ => ?_))
      refine hx_bs ?_
      have hp := List.getElem?_eq_getElem (show k < ps.length by omega)
      obtain ⟨g1, g2⟩ := h3 k _ hp
      try rw [sm_ld k74 (by omega) (by omega), g1]
      refine hx_bs (Hx.ce (sm_eq g2 hw) (fun c3 => ?_) (fun c3 => ?_))
      · rw [fix_first (k := k) (by rw [hp, c3]) hj]; exact Hx.ret ⟨rfl, sm_iz _⟩
      · refine hx_nm ?_
        rw [sm_add, ih (k + 1) (by omega) (by omega) (fun j hj2 => ?_)]
        · exact Hx.ret ⟨rfl, rfl⟩
        · by_cases e : j = k
          · subst e; rw [hp]; exact fun q => c3 (Option.some.inj q)
          · exact hj j (by omega)
theorem cp_param {σ : St} {x w : Nat} {ps : List Nat} (hx : XS σ x) (h : Prm σ x ps) (hw : w < 2147483648) : fX4_parameterOf σ (x + 65) (nI w) = some (σ, iz (oi (fix ps w))) := by
  rw [n_fX4_parameterOf]
  exact cp_param_2 hx h hw FU 0 (by have := h.2.1; show ps.length - 0 < 4294967296; omega) (by omega) (fun j hj => absurd hj (Nat.not_lt_zero _))
theorem RP.g {σ : St} {x n i nc : Nat} {t ps : List Nat} {L : List It} (h : RP σ x t ps n i L nc) : gI σ 8 6 (x + 65) = some (nI i) ∧ gI σ 8 5 (x + 65) = some (nI n) ∧ gI σ 8 12 (x + 65) = some (nI nc) ∧ ckK σ 9 (x + 65) = some () := by
  have hx := h.1.1.1
  exact ⟨(sm_gI hx.k9).trans (congrArg some h.2.1.1), (sm_gI hx.k9).trans (congrArg some h.1.2.1.2.1.1), (sm_gI hx.k9).trans (congrArg some h.2.2.2.1), hx.c9⟩
/-- to the next token -/
theorem RP.nx {σ : St} {x n i nc : Nat} {t ps : List Nat} {L : List It} (h : RP σ x t ps n i L nc) (hg : gon (tk t i)) : pI σ 8 6 (x + 65) (nI i + nI 1) = some (wI σ (fid 8 6) (x + 65) (nI (i + 1))) ∧ rX x fP aP σ (wI σ (fid 8 6) (x + 65) (nI (i + 1))) ∧ RP (wI σ (fid 8 6) (x + 65) (nI (i + 1))) x t ps n (i + 1) L nc := by
  have hR : rX x fP aP σ (wI σ (fid 8 6) (x + 65) (nI (i + 1))) := rX.wI (Or.inl rfl)
  obtain ⟨hb, ⟨h1, h2⟩, h3, h4, h5⟩ := h
  exact ⟨by rw [sm_add, sm_pI hb.1.1.k9], hR, hb.rX hR, ⟨sI_wI_eq, hb.2.1.2.2.nx h2 hg⟩, (sI_wI_f (by decide)).trans h3, (sI_wI_f (by decide)).trans h4, h5⟩
/-- one number more -/
theorem RP.nc {σ : St} {x n i nc : Nat} {t ps : List Nat} {L : List It} (h : RP σ x t ps n i L nc) : pI σ 8 12 (x + 65) (nI nc + nI 1) = some (wI σ (fid 8 12) (x + 65) (nI (nc + 1))) ∧ rX x fP aP σ (wI σ (fid 8 12) (x + 65) (nI (nc + 1))) ∧ RP (wI σ (fid 8 12) (x + 65) (nI (nc + 1))) x t ps n i L (nc + 1) := by
  have hR : rX x fP aP σ (wI σ (fid 8 12) (x + 65) (nI (nc + 1))) := rX.wI (Or.inr (Or.inr rfl))
  obtain ⟨hb, ⟨h1, h2⟩, h3, h4, h5⟩ := h
  exact ⟨by rw [sm_add, sm_pI hb.1.1.k9], hR, hb.rX hR, ⟨(sI_wI_f (by decide)).trans h1, h2⟩, (sI_wI_f (by decide)).trans h3, sI_wI_eq, h5⟩
theorem em_w {σ : St} {x o j v : Nat} (hx : XS σ x) (hk : sK σ (x + o) = 100) (hn : sN σ (x + o) = 200) (ho : aP o) (hj : j < 200) : ∃ σ', stI σ (x + o) (nI j) (nI v) = some σ' ∧ rX x fP aP σ σ' ∧ (∀ c i, sA σ' c i = if c = x + o ∧ i = j then nI v else sA σ c i) ∧ sI σ' = sI σ :=
  ⟨wA σ (x + o) j (nI v), sm_st hk (by omega) (by omega), rX.wA ho, fun _ _ => rfl, rfl⟩
theorem em_r {σ σ' : St} {x o j v c i : Nat} (h : ∀ c i, sA σ' c i = if c = x + o ∧ i = j then nI v else sA σ c i) (hc : c ≠ x + o ∨ i ≠ j) : sA σ' c i = sA σ c i := by
  rw [h, if_neg (fun q => hc.elim (fun e => e q.1) (fun e => e q.2))]
theorem em_s {σ σ' : St} {x o j v : Nat} (h : ∀ c i, sA σ' c i = if c = x + o ∧ i = j then nI v else sA σ c i) : sA σ' (x + o) j = nI v := by
  rw [h, if_pos ⟨rfl, rfl⟩]
theorem cp_emit {σ : St} {x n i nc kn : Nat} {t ps : List Nat} {L : List It} {it : It} {ov pv cv : Int32} (h : RP σ x t ps n i L nc) (hl : L.length < 200) (hk : ckd it = kn) (ho : ov = nI (if it.1 = 30 then cnv L else it.2.1)) (hp : pv = nI it.2.2.2.1) (hc : cv = nI it.2.2.1) :
    Hx (fX4_emit σ (x + 65) (nI kn) ov pv cv) (fun σ' _ => rX x fP aP σ σ' ∧ RP σ' x t ps n i (L ++ [it]) nc) := by
  obtain ⟨hb, ⟨h1, h2⟩, h3, h4, h5⟩ := h
  have hx := hb.1.1
  generalize hov : (if it.1 = 30 then cnv L else it.2.1) = ow at ho
  generalize hpv : it.2.2.2.1 = pw at hp
  generalize hcv : it.2.2.1 = cw at hc
  rw [ho, hp, hc]
  have g11 : gI σ 8 11 (x + 65) = some (nI L.length) := (sm_gI hx.k9).trans (congrArg some h3)
  obtain ⟨σ1, w1, r1, a1, i1⟩ := em_w (v := kn) hx (hx.kd 70 100 (by decide)) (hx.nn 70 200 (by decide)) (by unfold aP; omega) hl
  have hx1 := hx.rX r1
  obtain ⟨σ2, w2, r2, a2, i2⟩ := em_w (v := ow) hx1 (hx1.kd 71 100 (by decide)) (hx1.nn 71 200 (by decide)) (by unfold aP; omega) hl
  have hx2 := hx1.rX r2
  obtain ⟨σ3, w3, r3, a3, i3⟩ := em_w (v := pw) hx2 (hx2.kd 72 100 (by decide)) (hx2.nn 72 200 (by decide)) (by unfold aP; omega) hl
  have hx3 := hx2.rX r3
  obtain ⟨σ4, w4, r4, a4, i4⟩ := em_w (v := cw) hx3 (hx3.kd 73 100 (by decide)) (hx3.nn 73 200 (by decide)) (by unfold aP; omega) hl
  have hx4 := hx3.rX r4
  have R4 := ((r1.tr r2 (fun _ q => q) (fun _ q => q)).tr r3 (fun _ q => q) (fun _ q => q)).tr r4 (fun _ q => q) (fun _ q => q)
  have R5 := R4.tr (rX.wI (k := fid 8 11) (v := nI (L.length + 1)) (F := fP) (A := aP) (Or.inr (Or.inl rfl))) (fun f q => q) (fun o q => q)
  have j1 : sI σ1 (fid 8 11) (x + 65) = nI L.length := by rw [i1]; exact h3
  have j2 : sI σ2 (fid 8 11) (x + 65) = nI L.length := by rw [i2]; exact j1
  have j3 : sI σ3 (fid 8 11) (x + 65) = nI L.length := by rw [i3]; exact j2
  have j4 : sI σ4 (fid 8 11) (x + 65) = nI L.length := by rw [i4]; exact j3
  have fin : RP (wI σ4 (fid 8 11) (x + 65) (nI (L.length + 1))) x t ps n i (L ++ [it]) nc := by
    refine ⟨hb.rX R5, ⟨(sI_wI_f (by decide)).trans (by rw [i4, i3, i2, i1]; exact h1), h2⟩, ?_, (sI_wI_f (by decide)).trans (by rw [i4, i3, i2, i1]; exact h4), fun j it' hj => ?_⟩
    · rw [List.length_append, List.length_singleton]; exact sI_wI_eq
    · unfold Lrow
      show sA σ4 (x + 70) j = _ ∧ sA σ4 (x + 71) j = _ ∧ sA σ4 (x + 72) j = _ ∧ sA σ4 (x + 73) j = _
      by_cases e : j < L.length
      · rw [List.getElem?_append_left e] at hj
        have q := h5 j it' hj
        unfold Lrow at q
        rw [List.take_append_of_le_length (by omega)]
        have back : ∀ c, sA σ4 c j = sA σ c j := fun c => by rw [em_r a4 (Or.inr (by omega)), em_r a3 (Or.inr (by omega)), em_r a2 (Or.inr (by omega)), em_r a1 (Or.inr (by omega))]
        rw [back, back, back, back]
        exact q
      · have hjl := (List.getElem?_eq_some_iff.mp hj).1
        rw [List.length_append, List.length_singleton] at hjl
        obtain rfl : j = L.length := by omega
        rw [List.getElem?_append_right (by omega), Nat.sub_self] at hj
        have hj9 : it = it' := Option.some.inj hj
        subst hj9
        rw [List.take_left, hk, hov, hpv, hcv]
        refine ⟨?_, ?_, ?_, ?_⟩
        · rw [em_r a4 (Or.inl (by omega)), em_r a3 (Or.inl (by omega)), em_r a2 (Or.inl (by omega))]; exact em_s a1
        · rw [em_r a4 (Or.inl (by omega)), em_r a3 (Or.inl (by omega))]; exact em_s a2
        · rw [em_r a4 (Or.inl (by omega))]; exact em_s a3
        · exact em_s a4
  rw [n_fX4_emit, g11]
  refine hx_bs ?_
  rw [xf_8_7 hx]
  refine hx_bs ?_
  rw [sm_aln (hx.kd 70 100 (by decide)) ⟨by omega, by omega⟩, hx.nn 70 200 (by decide)]
  refine hx_bs (Hx.ce (sm_le (by omega) (by omega)) (fun c => absurd c (by omega)) (fun _ => ?_))
  refine hx_bs (hx_bs ?_)
  rw [w1]
  refine hx_bs ?_
  rw [xf_8_8 hx1]
  refine hx_bs ?_
  rw [(sm_gI hx1.k9).trans (congrArg some j1)]
  refine hx_bs ?_
  rw [w2]
  refine hx_bs ?_
  rw [xf_8_9 hx2]
  refine hx_bs ?_
  rw [(sm_gI hx2.k9).trans (congrArg some j2)]
  refine hx_bs ?_
  rw [w3]
  refine hx_bs ?_
  rw [xf_8_10 hx3]
  refine hx_bs ?_
  rw [(sm_gI hx3.k9).trans (congrArg some j3)]
  refine hx_bs ?_
  rw [w4]
  refine hx_bs ?_
  rw [(sm_gI hx4.k9).trans (congrArg some j4)]
  refine hx_bs ?_
  rw [sm_add, sm_pI hx4.k9]
  exact hx_bs (Hx.ret ⟨R5, fin⟩)
