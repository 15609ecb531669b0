/-! ===== the class' Reader goes down the grammar ===== -/
/-- a token behind which nothing of the level goes on -/
def spc (lv b : Nat) : Prop := b ≠ 33 ∧ b ≠ 94 ∧ (lv ≤ 2 → sgo b < 3) ∧ (lv ≤ 1 → sgo b = 0)
def hdk (lv : Nat) (S : List Wt) : Prop := ∀ w ∈ S.head?, ¬ (w.1 ≠ 40 ∧ lv ≤ rk w.1)
def Pst (x : Nat) (t ps : List Nat) (n lv : Nat) (S : List Wt) (L : List It) (i : Nat) (σ σ' : St) (v : Int32) : Prop :=
  rX x fP aP σ σ' ∧ ∃ i' L', RP σ' x t ps n i' L' (cnv L') ∧ i ≤ i' ∧ L'.length + i ≤ L.length + i' ∧
    ((v = nI 0 ∧ Rt t ps (false, S, L, i) (.inr (.inl i'))) ∨ (v = nI 1 ∧ ∃ P I, (∀ w ∈ P, w.1 ≠ 40 ∧ lv ≤ rk w.1) ∧ Rt t ps (false, S, L, i) (.inl (true, P ++ S, I, i')) ∧ L' = I ++ P.map emw ∧ spc lv (tk t i').1))
def Pst0 (x : Nat) (t ps : List Nat) (n : Nat) (S : List Wt) (L : List It) (i : Nat) (σ σ' : St) (v : Int32) : Prop :=
  rX x fP aP σ σ' ∧ ∃ i' L', RP σ' x t ps n i' L' (cnv L') ∧ i ≤ i' ∧ L'.length + i ≤ L.length + i' ∧
    ((v = nI 0 ∧ Rt t ps (false, S, L, i) (.inr (.inl i'))) ∨ (v = nI 1 ∧ Rt t ps (false, S, L, i) (.inl (true, S, L', i'))))
def CQ (x : Nat) (t ps : List Nat) (n lv o : Nat) (q : St → Nat → Int32 → Option (St × Int32)) : Prop := ∀ S L i σ, opn S = o → hdk lv S → RP σ x t ps n i L (cnv L) → L.length ≤ i → Hx (q σ (x + 65) (nI o)) (Pst x t ps n lv S L i σ)
def CM (x : Nat) (t ps : List Nat) (n o : Nat) (q : St → Nat → Int32 → Option (St × Int32)) : Prop := ∀ S L i σ, opn S = o → RP σ x t ps n i L (cnv L) → L.length ≤ i → Hx (q σ (x + 65) (nI o)) (Pst x t ps n 3 S L i σ)
def CO (x : Nat) (t ps : List Nat) (n o : Nat) (q : St → Nat → Int32 → Option (St × Int32)) : Prop := ∀ S L i σ w, opw w = 1 → opn S = o → gon (tk t i) → RP σ x t ps n i L (cnv L) → L.length ≤ i → Hx (q σ (x + 65) (nI o)) (fun σ' v => (12 ≤ o ∧ v = nI 0 ∧ σ' = σ) ∨ (o < 12 ∧ Pst x t ps n 3 (w :: S) L (i + 1) σ σ' v))
def CP (x : Nat) (t ps : List Nat) (n o : Nat) (q : St → Nat → Int32 → Option (St × Int32)) : Prop := ∀ S L i σ, opn S = o → (tk t i).1 ≠ 45 → RP σ x t ps n i L (cnv L) → L.length ≤ i → Hx (q σ (x + 65) (nI o)) (Pst0 x t ps n S L i σ)
def CC (x : Nat) (t ps : List Nat) (n o : Nat) (q : St → Nat → Int32 → Int32 → Int32 → Option (St × Int32)) : Prop := ∀ S L i σ, opn S = o → (tk t i).1 = 1 → (tk t (i + 1)).1 = 40 → RP σ x t ps n (i + 1) L (cnv L) → L.length ≤ i → Hx (q σ (x + 65) (nI (tk t i).2.1) (nI (tk t i).2.2.1) (nI o)) (Pst0 x t ps n S L i σ)
theorem ckZ0 : ckZ (nI 0) = some () := if_pos (Or.inl rfl)
theorem ckZ1 : ckZ (nI 1) = some () := if_pos (Or.inr rfl)
theorem RP.il {σ : St} {x n i nc : Nat} {t ps : List Nat} {L : List It} (h : RP σ x t ps n i L nc) : i < n ∧ n ≤ 201 := ⟨h.2.1.2, h.1.n⟩
theorem Pst.pre {x n lv i : Nat} {t ps : List Nat} {S : List Wt} {L : List It} {σ0 σ σ' : St} {v : Int32} (h : Pst x t ps n lv S L i σ σ' v) (hR : rX x fP aP σ0 σ) : Pst x t ps n lv S L i σ0 σ' v := ⟨hR.tr h.1 (fun _ q => q) (fun _ q => q), h.2⟩
theorem Pst.z {x n lv i : Nat} {t ps : List Nat} {S : List Wt} {L : List It} {σ σ' : St} {v : Int32} (h : Pst x t ps n lv S L i σ σ' v) : ckZ v = some () := by
  obtain ⟨_, _, _, _, _, _, h⟩ := h
  rcases h with ⟨rfl, _⟩ | ⟨rfl, _⟩
  · exact ckZ0
  · exact ckZ1
theorem cg_opened {x n o : Nat} {t ps : List Nat} {q : St → Nat → Int32 → Option (St × Int32)} (ho : o ≤ 12) (hq : o < 12 → CM x t ps n (o + 1) q) : CO x t ps n o (fX4_readOpened q) := by
  intro S L i σ w hw hS hg h hL
  obtain ⟨g1, g2, g3, g4⟩ := h.g
  rw [n_fX4_readOpened]
  refine Hx.ce (sm_lt (by omega) (by omega)) (fun c => ?_) (fun c => ?_)
  · obtain ⟨e1, r1, h1⟩ := h.nx hg
    try rw [g1]
    refine hx_bs ?_
    try rw [e1]
    refine hx_bs ?_
    try rw [h1.g.2.2.2]
    refine hx_bs ?_
    rw [sm_add]
    refine Hx.bd (hq c (w :: S) L (i + 1) _ (by rw [opn_cons, hw, hS]; omega) h1 (by omega)) (fun σ2 v h2 => ?_)
    try rw [h2.z]
    exact hx_bs (Hx.ret (Or.inr ⟨c, h2.pre r1⟩))
  · exact Hx.ret (Or.inl ⟨by omega, rfl, rfl⟩)
theorem sy_b {t ps : List Nat} {S : List Wt} {L : List It} {i : Nat} : sy t ps (true, S, L, i) = syB t S L i := if_neg (fun h => by cases h)
theorem sy_a {t ps : List Nat} {S : List Wt} {L : List It} {i : Nat} : sy t ps (false, S, L, i) = syA t ps S L i := if_pos rfl
theorem stl_w {m : Nat} {P S : List Wt} {I : List It} {w : Wt} (hP : ∀ w ∈ P, w.1 ≠ 40 ∧ m ≤ rk w.1) (hw : ¬ (w.1 ≠ 40 ∧ m ≤ rk w.1)) : stl m (P ++ w :: S) I = (w :: S, I ++ P.map emw) := by
  rw [stl_app hP]
  exact stl_stop (fun u hu => by cases hu; exact hw)
theorem sgo_s {b : Nat} (h : 0 < sgo b) : b ≠ 0 ∧ b ≠ 33 ∧ b ≠ 41 ∧ b ≠ 94 ∧ b ≠ 44 ∧ b ≠ 3 ∧ b ≠ 1 ∧ b ≠ 2 := by
  unfold sgo at h
  refine ⟨?_, ?_, ?_, ?_, ?_, ?_, ?_, ?_⟩ <;> (rintro rfl; simp at h)
/-- behind an operand, ahead of a bracket: what closes nothing is an error -/
theorem syB_err {t ps : List Nat} {P S : List Wt} {I : List It} {w : Wt} {i : Nat} (hP : ∀ u ∈ P, u.1 ≠ 40 ∧ 1 ≤ rk u.1) (hw : w.1 = 40) (hs : spc 1 (tk t i).1) (h41 : (tk t i).1 ≠ 41) (h44 : (tk t i).1 ≠ 44 ∨ w.2.2.1 = none) : sy t ps (true, P ++ w :: S, I, i) = .inr (.inl i) := by
  have e := stl_w (S := S) (I := I) hP (show ¬ (w.1 ≠ 40 ∧ 1 ≤ rk w.1) from fun q => q.1 hw)
  obtain ⟨s1, s2, _, s4⟩ := hs
  rw [sy_b]
  unfold syB
  rw [if_neg s1, if_neg h41, if_neg s2]
  by_cases c : (tk t i).1 = 44
  · rw [if_pos c, e]
    rcases h44 with h44 | h44
    · exact absurd c h44
    · show (if w.2.2.1 = none then _ else _) = _
      rw [if_pos h44]
  · rw [if_neg c, s4 (Nat.le_refl _), if_neg (by omega)]
    by_cases c0 : (tk t i).1 = 0
    · rw [if_pos c0, e]; rfl
    · rw [if_neg c0]
theorem cg_call_14 {x n o i st w : Nat} {t ps : List Nat} {q : St → Nat → Int32 → Option (St × Int32)} {S : List Wt} {L : List It} {σ0 : St} (hL : L.length ≤ i) (hw : w < 2147483648) (hq : CQ x t ps n 1 (o + 1) q) (ho : o < 12) (hS : opn S = o) : ∀ (f j v : Nat) (Lc : List It) (σ : St), n - j < f → i < j → gon (tk t j) → RP σ x t ps n j Lc (cnv Lc) → Lc.length + i < L.length + j → v ≤ j →
    Rt t ps (false, S, L, i) (.inl (false, (40, st, some w, v + 1) :: S, Lc, j + 1)) → rX x fP aP σ0 σ → Hx (fX4_readCall_14 q f σ (x + 65) (nI w) (nI st) (nI o) (nI v) (nI 1)) (Pst0 x t ps n S L i σ0) := by
  intro f
  induction f with
  | zero => intro j v Lc σ h; omega
  | succ f ih =>
    intro j v Lc σ hf hij hg h hLc hv hr hR
    obtain ⟨il, nl⟩ := h.il
    obtain ⟨g1, g2, g3, g4⟩ := h.g
    rw [n_fX4_readCall_14]
    refine Hx.ce (sm_eq (by omega) (by omega)) (fun c => absurd c (by omega)) (fun _ => ?_)
    try rw [g1]
    refine hx_bs ?_
    try rw [g2]
    refine hx_bs (Hx.ce (sm_le (by omega) (by omega)) (fun c => absurd c (by omega)) (fun _ => ?_))
    refine hx_bs ?_
    obtain ⟨e1, r1, h1⟩ := h.nx hg
    try rw [e1]
    refine hx_bs ?_
    try rw [h1.g.2.2.2]
    refine hx_bs ?_
    rw [sm_add]
    refine Hx.bd (hq ((40, st, some w, v + 1) :: S) Lc (j + 1) _ (by rw [opn_cons, hS]; show 1 + o = o + 1; omega) (fun u hu => by cases hu; exact fun q => q.1 rfl) h1 (by omega)) (fun σ2 v2 h2 => ?_)
    obtain ⟨r2, i', L', p1, p2, p3, p4⟩ := h2
    have hRR := (hR.tr r1 (fun _ q => q) (fun _ q => q)).tr r2 (fun _ q => q) (fun _ q => q)
    obtain ⟨il', _⟩ := p1.il
    rcases p4 with ⟨rfl, p4⟩ | ⟨rfl, P, I, hP, p4, p5, p6⟩
    · refine Hx.ce (sm_eq (by omega) (by omega)) (fun _ => ?_) (fun c => absurd rfl c)
      exact Hx.ret ⟨hRR, i', L', p1, by omega, by omega, Or.inl ⟨rfl, hr.tr p4⟩⟩
    · refine Hx.ce (sm_eq (by omega) (by omega)) (fun c => absurd c (by omega)) (fun _ => ?_)
      refine hx_nm ?_
      rw [sm_add]
      have hr2 := hr.tr p4
      obtain ⟨k1, k2, k3, k4⟩ := p1.g
      have hstl := stl_w (m := 1) (S := S) (I := I) (w := (40, st, some w, v + 1)) hP (fun q => q.1 rfl)
      have hb := (tk_b (t := t) i').2.2.2.2.1
      try rw [k1]
      refine hx_bs ?_
      try rw [k4]
      refine hx_bs ?_
      try rw [cp_tk p1.1 il']
      refine hx_cs (Hx.ce (sm_eq (by omega) (by omega)) (fun c => ?_) (fun c => ?_))
      · rw [n_fX4_readCall_73]
        refine ih i' (v + 1) L' σ2 (by omega) (by omega) ⟨by omega, by omega⟩ p1 (by omega) (by omega) (hr2.tr (Rt.st ?_ Rt.rf)) hRR
        rw [sy_b]
        unfold syB
        rw [if_neg (by omega), if_neg (by omega), if_neg (by omega), if_pos c, hstl, p5]
        rfl
      · rw [n_fX4_readCall_73]
        obtain ⟨f', rfl⟩ : ∃ f', f = f' + 1 := ⟨f - 1, by omega⟩
        rw [n_fX4_readCall_14]
        refine Hx.ce (sm_eq (by omega) (by omega)) (fun _ => ?_) (fun c => absurd rfl c)
        try rw [n_fX4_readCall_78, k1]
        refine hx_bs ?_
        try rw [k4]
        refine hx_bs ?_
        try rw [cp_tk p1.1 il']
        refine hx_cs (Hx.ce (sm_eq (by omega) (by omega)) (fun c2 => ?_) (fun c2 => ?_))
        · try rw [k1]
          refine hx_bs ?_
          have hg' : gon (tk t i') := ⟨by omega, by omega⟩
          obtain ⟨e3, r3, h3⟩ := p1.nx hg'
          have il3 := h3.il
          try rw [e3]
          refine hx_bs ?_
          try rw [cx_stepOf h3.1.1.2 hw]
          refine hx_cs ?_
          have hm : Rt t ps (false, S, L, i) (.inl (true, S, L' ++ [(33, w, v + 1, st, q0)], i' + 1)) := by
            refine hr2.tr (Rt.st ?_ Rt.rf)
            rw [sy_b]
            unfold syB
            rw [if_neg (by omega), if_pos c2, hstl, p5]
            rfl
          have em : ∀ kn, ckd (33, w, v + 1, st, q0) = kn → Hx (fX4_readCall_122 q (wI σ2 (fid 8 6) (x + 65) (nI (i' + 1))) (nI w) (nI st) (nI (v + 1)) (x + 65) (nI kn)) (Pst0 x t ps n S L i σ0) := by
            intro kn hkn
            try rw [n_fX4_readCall_122, h3.g.2.2.2]
            refine hx_bs ?_
            refine Hx.bd (cp_emit (it := (33, w, v + 1, st, q0)) h3 (by omega) hkn rfl rfl rfl) (fun σ4 _ h4 => ?_)
            refine Hx.ret ⟨(hRR.tr r3 (fun _ q => q) (fun _ q => q)).tr h4.1 (fun _ q => q) (fun _ q => q), i' + 1, L' ++ [(33, w, v + 1, st, q0)], ?_, by omega, by rw [List.length_append, List.length_singleton]; omega, Or.inr ⟨rfl, hm⟩⟩
            rw [cnv_app, cnv_1, if_neg (by simp), Nat.add_zero]
            exact h4.2
          have hkb := known_b w
          have hck : ckd (33, w, v + 1, st, q0) = if known w = 0 then 9 else known w := rfl
          refine Hx.ce (sm_eq (by omega) (by omega)) (fun c3 => em 9 (by rw [hck, if_pos c3])) (fun c3 => em _ (by rw [hck, if_neg c3]))
        · refine Hx.ret ⟨hRR, i', L', p1, by omega, by omega, Or.inl ⟨rfl, hr2.tr (Rt.en ?_)⟩⟩
          exact syB_err hP rfl p6 c2 (Or.inl c)
theorem cg_call {x n o : Nat} {t ps : List Nat} {q : St → Nat → Int32 → Option (St × Int32)} (ho : o ≤ 12) (hq : o < 12 → CQ x t ps n 1 (o + 1) q) : CC x t ps n o (fX4_readCall q) := by
  intro S L i σ hS h1 h2 h hL
  obtain ⟨il, nl⟩ := h.il
  have hw := (tk_b (t := t) i).2.2.2.1 h1
  rw [n_fX4_readCall]
  refine Hx.ce (sm_lt (by omega) (by omega)) (fun c => ?_) (fun c => ?_)
  · refine cg_call_14 hL (by have := hw.2; omega) (hq c) c hS FU (i + 1) 0 L σ (by show n - (i + 1) < 4294967296; omega) (by omega) ⟨by omega, by omega⟩ h (by omega) (by omega) (Rt.st ?_ Rt.rf) rX.rf
    rw [sy_a]
    unfold syA
    rw [if_neg (by omega), if_neg (by omega), if_neg (fun q => q h1), if_neg (fun q => q h2), hS, if_neg (by omega)]
  · refine Hx.ret ⟨rX.rf, i + 1, L, h, by omega, by omega, Or.inl ⟨rfl, Rt.en ?_⟩⟩
    rw [sy_a]
    unfold syA
    rw [if_neg (by omega), if_neg (by omega), if_neg (fun q => q h1), if_neg (fun q => q h2), hS, if_pos (by omega)]
