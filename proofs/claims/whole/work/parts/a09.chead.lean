/-! ===== the line's head ===== -/
/-- the WORDs in ( ): the last one's token, if an = follows -/
def pml (t : List Nat) : Nat → Nat → Option Nat
  | 0, _ => none
  | k + 1, i => if (tk t i).1 ≠ 1 then none else if (tk t (i + 1)).1 = 44 then pml t k (i + 2) else if (tk t (i + 1)).1 = 41 ∧ (tk t (i + 2)).1 = 61 then some i else none
theorem pml_s (t : List Nat) (k i : Nat) : pml t (k + 1) i = if (tk t i).1 ≠ 1 then none else if (tk t (i + 1)).1 = 44 then pml t k (i + 2) else if (tk t (i + 1)).1 = 41 ∧ (tk t (i + 2)).1 = 61 then some i else none := rfl
def frm (t : List Nat) : Nat := if (tk t 0).1 ≠ 1 then 0 else if (tk t 1).1 = 61 then 1 else if (tk t 1).1 ≠ 40 then 0 else if (pml t 300 2).isSome then 2 else 0
def hdp (t : List Nat) : Nat → Nat → List Nat → Nat ⊕ (Nat × List Nat)
  | 0, i, _ => .inl i
  | k + 1, i, ps => if 4 ≤ ps.length ∨ fix ps (tk t i).2.1 ≠ none then .inl i else if (tk t (i + 1)).1 = 41 then .inr (i + 3, ps ++ [(tk t i).2.1]) else hdp t k (i + 2) (ps ++ [(tk t i).2.1])
/-- the error's token, or where the sum begins and the parameters -/
def hdf (t : List Nat) : Nat ⊕ (Nat × List Nat) := if frm t = 0 then .inr (0, []) else if frm t = 1 then .inr (2, []) else hdp t 5 2 []
/-- the error's token, or the items -/
def Rdd (t : List Nat) (r : Nat ⊕ List It) : Prop := match hdf t with
  | .inl i => r = .inl i
  | .inr (i, ps) => Rt t ps (false, [], [], i) (.inr r)
theorem Rdd.det {t : List Nat} {r r' : Nat ⊕ List It} (h : Rdd t r) (h' : Rdd t r') : r = r' := by
  unfold Rdd at h h'
  cases hh : hdf t with
  | inl i => rw [hh] at h h'; exact h.trans h'.symm
  | inr p => rw [hh] at h h'; exact h.det h'
theorem frm_b (t : List Nat) : frm t ≤ 2 := by
  unfold frm
  repeat' split
  all_goals omega
theorem frm_1 {t : List Nat} (h : frm t = 1) : (tk t 0).1 = 1 ∧ (tk t 1).1 = 61 := by
  unfold frm at h
  split at h
  · cases h
  split at h
  · rename_i a b; exact ⟨Classical.not_not.mp a, b⟩
  split at h
  · cases h
  split at h <;> cases h
theorem frm_2 {t : List Nat} (h : frm t = 2) : (tk t 0).1 = 1 ∧ (tk t 1).1 = 40 ∧ ∃ a, pml t 300 2 = some a := by
  unfold frm at h
  split at h
  · cases h
  rename_i a
  split at h
  · cases h
  split at h
  · cases h
  rename_i b
  split at h
  · rename_i c
    obtain ⟨d, hd⟩ := Option.isSome_iff_exists.mp c
    exact ⟨Classical.not_not.mp a, Classical.not_not.mp b, d, hd⟩
  · cases h
/-- the text and its tokens -/
def RN (σ : St) (x : Nat) (t : List Nat) (n : Nat) : Prop := (XS σ x ∧ KWs σ x) ∧ RT σ x t ∧ RK σ x t n ∧ Ntk t n
theorem RN.rX {σ σ' : St} {x n : Nat} {t : List Nat} {F A : Nat → Prop} (h : RN σ x t n) (hR : rX x F A σ σ') (h1 : ¬ F (fid 8 1)) (h5 : ¬ F (fid 8 5)) (hA : ¬ A 66 ∧ ¬ A 67 ∧ ¬ A 68 ∧ ¬ A 69) : RN σ' x t n := by
  obtain ⟨⟨a1, a2⟩, a3, ⟨a4, a5⟩, a6⟩ := h
  refine ⟨⟨a1.rX hR, a2.rX hR⟩, a3.rX hR h1 hA.1, ⟨by rw [hR.i h5]; exact a4, fun i hi => ?_⟩, a6⟩
  obtain ⟨q1, q2, q3⟩ := a5 i hi
  exact ⟨by rw [hR.a hA.2.1]; exact q1, by rw [hR.a hA.2.2.1]; exact q2, fun q => by rw [hR.a hA.2.2.2]; exact q3 q⟩
theorem ch_60n {σ : St} {x n i : Nat} {t ps : List Nat} (h : RB σ x t ps n) (h1 : 1 < n) (h40 : (tk t 1).1 ≠ 40) : fX4_formAhead_60 σ (x + 65) (nI i) = some (σ, nI 0) := by
  have hb := (tk_b (t := t) 1).2.2.2.2.1
  apply hx_eq
  try rw [n_fX4_formAhead_60, h.1.1.c9]
  refine hx_bs ?_
  try rw [cp_tk h h1]
  refine hx_cs (Hx.ce (sm_eq (by omega) (by omega)) (fun c => absurd c h40) (fun _ => ?_))
  exact Hx.ret ⟨rfl, rfl⟩
theorem ch_25n {σ : St} {x n : Nat} {t ps : List Nat} (h : RB σ x t ps n) (h1 : 1 < n) (h40 : (tk t 1).1 ≠ 40) : ∀ (f i : Nat), n - i < f → i ≤ 400 → fX4_formAhead_25 f σ (x + 65) (nI i) = some (σ, nI 0) := by
  have hn := h.n
  intro f
  induction f with
  | zero => intro i h; omega
  | succ f ih =>
    intro i hf hi
    apply hx_eq
    try rw [n_fX4_formAhead_25, (sm_gI h.1.1.k9).trans (congrArg some h.2.1.2.1.1)]
    refine hx_bs (Hx.ce (sm_le (by omega) (by omega)) (fun c => ?_) (fun c => ?_))
    · rw [ch_60n h h1 h40]; exact Hx.ret ⟨rfl, rfl⟩
    · have hb := (tk_b (t := t) i).2.2.2.2.1
      have hb2 := (tk_b (t := t) (i + 1)).2.2.2.2.1
      try rw [h.1.1.c9]
      refine hx_bs ?_
      try rw [cp_tk h (by omega)]
      refine hx_cs (Hx.ce (sm_eq (by omega) (by omega)) (fun c2 => ?_) (fun c2 => ?_))
      · have := h.2.1.2.2.nx (show i < n by omega) ⟨by omega, by omega⟩
        try rw [h.1.1.c9]
        refine hx_bs ?_
        try rw [sm_add, cp_tk h (by omega)]
        refine hx_cs (Hx.ce (sm_eq (by omega) (by omega)) (fun c3 => ?_) (fun c3 => ?_))
        · refine hx_nm ?_
          rw [sm_add, ih (i + 2) (by omega) (by omega)]
          exact Hx.ret ⟨rfl, rfl⟩
        · rw [ch_60n h h1 h40]; exact Hx.ret ⟨rfl, rfl⟩
      · rw [ch_60n h h1 h40]; exact Hx.ret ⟨rfl, rfl⟩
theorem ch_25 {σ : St} {x n : Nat} {t ps : List Nat} (h : RB σ x t ps n) (h1 : 1 < n) (h40 : (tk t 1).1 = 40) : ∀ (f i k : Nat), n - i < f → n - i < k → i < n → fX4_formAhead_25 f σ (x + 65) (nI i) = some (σ, nI (if (pml t k i).isSome then 2 else 0)) := by
  have hn := h.n
  intro f
  induction f with
  | zero => intro i k h; omega
  | succ f ih =>
    intro i k hf hk hi
    obtain ⟨k, rfl⟩ : ∃ j, k = j + 1 := ⟨k - 1, by omega⟩
    have hb := (tk_b (t := t) i).2.2.2.2.1
    have hb2 := (tk_b (t := t) (i + 1)).2.2.2.2.1
    have hb3 := (tk_b (t := t) (i + 2)).2.2.2.2.1
    have nx := h.2.1.2.2
    have e60 : (tk t (i + 1)).1 ≠ 44 ∨ (tk t i).1 ≠ 1 → fX4_formAhead_60 σ (x + 65) (nI i) = some (σ, nI (if (pml t (k + 1) i).isSome then 2 else 0)) := by
      intro hor
      apply hx_eq
      try rw [n_fX4_formAhead_60, h.1.1.c9]
      refine hx_bs ?_
      try rw [cp_tk h h1]
      refine hx_cs (Hx.ce (sm_eq (by omega) (by omega)) (fun _ => ?_) (fun c => absurd h40 c))
      try rw [h.1.1.c9]
      refine hx_bs ?_
      rw [cp_tk h hi]
      rw [pml_s]
      refine hx_cs (Hx.ce (sm_eq (by omega) (by omega)) (fun c1 => ?_) (fun c1 => ?_))
      · have := nx.nx hi ⟨by omega, by omega⟩
        rw [if_neg (show ¬ (tk t i).1 ≠ 1 from fun q => q c1), if_neg (show ¬ (tk t (i + 1)).1 = 44 by omega), h.1.1.c9]
        refine hx_bs ?_
        rw [sm_add, cp_tk h this]
        refine hx_cs (Hx.ce (sm_eq (by omega) (by omega)) (fun c2 => ?_) (fun c2 => ?_))
        · have := nx.nx this ⟨by omega, by omega⟩
          try rw [h.1.1.c9]
          refine hx_bs ?_
          rw [sm_add, cp_tk h (show i + 2 < n from this)]
          refine hx_cs (Hx.ce (sm_eq (by omega) (by omega)) (fun c3 => ?_) (fun c3 => ?_))
          · rw [if_pos (show (tk t (i + 1)).1 = 41 ∧ (tk t (i + 2)).1 = 61 from ⟨c2, c3⟩)]; exact Hx.ret ⟨rfl, rfl⟩
          · rw [if_neg (show ¬ ((tk t (i + 1)).1 = 41 ∧ (tk t (i + 2)).1 = 61) from fun q => c3 q.2)]; exact Hx.ret ⟨rfl, rfl⟩
        · rw [if_neg (show ¬ ((tk t (i + 1)).1 = 41 ∧ (tk t (i + 2)).1 = 61) from fun q => c2 q.1)]; exact Hx.ret ⟨rfl, rfl⟩
      · rw [if_pos c1]; exact Hx.ret ⟨rfl, rfl⟩
    apply hx_eq
    try rw [n_fX4_formAhead_25, (sm_gI h.1.1.k9).trans (congrArg some h.2.1.2.1.1)]
    refine hx_bs (Hx.ce (sm_le (by omega) (by omega)) (fun c => absurd c (by omega)) (fun _ => ?_))
    try rw [h.1.1.c9]
    refine hx_bs ?_
    try rw [cp_tk h hi]
    refine hx_cs (Hx.ce (sm_eq (by omega) (by omega)) (fun c1 => ?_) (fun c1 => ?_))
    · have := nx.nx hi ⟨by omega, by omega⟩
      try rw [h.1.1.c9]
      refine hx_bs ?_
      try rw [sm_add, cp_tk h this]
      refine hx_cs (Hx.ce (sm_eq (by omega) (by omega)) (fun c2 => ?_) (fun c2 => ?_))
      · have := nx.nx this ⟨by omega, by omega⟩
        refine hx_nm ?_
        rw [sm_add, ih (i + 2) k (by omega) (by omega) this]
        rw [pml_s]
        rw [if_neg (show ¬ (tk t i).1 ≠ 1 from fun q => q c1), if_pos c2]
        exact Hx.ret ⟨rfl, rfl⟩
      · rw [e60 (Or.inl c2)]; exact Hx.ret ⟨rfl, rfl⟩
    · rw [e60 (Or.inr c1)]; exact Hx.ret ⟨rfl, rfl⟩
theorem ch_form {σ : St} {x n : Nat} {t ps : List Nat} (h : RB σ x t ps n) : fX4_formAhead σ (x + 65) = some (σ, nI (frm t)) := by
  have hn := h.n
  have nx := h.2.1.2.2
  have hb := (tk_b (t := t) 0).2.2.2.2.1
  have hb2 := (tk_b (t := t) 1).2.2.2.2.1
  apply hx_eq
  try rw [n_fX4_formAhead, h.1.1.c9]
  refine hx_bs ?_
  rw [cp_tk h nx.1]
  unfold frm
  refine hx_cs (Hx.ce (sm_eq (by omega) (by omega)) (fun c1 => ?_) (fun c1 => ?_))
  · have h1 : 1 < n := nx.nx nx.1 ⟨by omega, by omega⟩
    try rw [if_neg (fun q => q c1), h.1.1.c9]
    refine hx_bs ?_
    try rw [cp_tk h h1]
    refine hx_cs (Hx.ce (sm_eq (by omega) (by omega)) (fun c2 => ?_) (fun c2 => ?_))
    · rw [if_pos c2]; exact Hx.ret ⟨rfl, rfl⟩
    · rw [if_neg c2]
      by_cases c3 : (tk t 1).1 = 40
      · have h2 : 2 < n := nx.nx h1 ⟨by omega, by omega⟩
        rw [if_neg (fun q => q c3), ch_25 h h1 c3 FU 2 300 (by show n - 2 < 4294967296; omega) (by omega) h2]
        exact Hx.ret ⟨rfl, rfl⟩
      · rw [if_pos c3, ch_25n h h1 c3 FU 2 (by show n - 2 < 4294967296; omega) (by omega)]
        exact Hx.ret ⟨rfl, rfl⟩
  · rw [if_pos c1]; exact Hx.ret ⟨rfl, rfl⟩
def fH (f : Nat) : Prop := f = fid 8 6 ∨ f = fid 8 13 ∨ f = fid 8 14 ∨ f = fid 8 15 ∨ f = fid 8 17
def aH (o : Nat) : Prop := o = 74
/-- the form, the word that is told and its place -/
def Wpo (σ : St) (x w wp : Nat) : Prop := (sI σ (fid 8 14) (x + 65) = nI w ∧ w < 387420489) ∧ sI σ (fid 8 15) (x + 65) = nI wp ∧ wp ≤ 200
def Frw (σ : St) (x : Nat) (t : List Nat) : Prop := sI σ (fid 8 13) (x + 65) = nI (frm t) ∧ ∃ w wp, Wpo σ x w wp ∧ (frm t ≠ 0 → w = (tk t 0).2.1 ∧ wp = (tk t 0).2.2.1)
theorem Frw.eq {σ σ' : St} {x : Nat} {t : List Nat} (h : Frw σ x t) (e1 : sI σ' (fid 8 13) (x + 65) = sI σ (fid 8 13) (x + 65)) (e2 : sI σ' (fid 8 14) (x + 65) = sI σ (fid 8 14) (x + 65)) (e3 : sI σ' (fid 8 15) (x + 65) = sI σ (fid 8 15) (x + 65)) : Frw σ' x t := by
  obtain ⟨h1, w, wp, ⟨⟨h2, h3⟩, h4, h5⟩, h6⟩ := h
  exact ⟨e1.trans h1, w, wp, ⟨⟨e2.trans h2, h3⟩, e3.trans h4, h5⟩, h6⟩
def Hpo (x : Nat) (t : List Nat) (n : Nat) (σ σ' : St) (v : Int32) : Prop := rX x fH aH σ σ' ∧ Frw σ' x t ∧ ((v = nI 1 ∧ ∃ i ps, hdf t = .inr (i, ps) ∧ RP σ' x t ps n i [] 0) ∨ (v = nI 0 ∧ ∃ i ps, hdf t = .inl i ∧ RP σ' x t ps n i [] 0))
theorem RP.mk {σ σ' : St} {x n i i' : Nat} {t ps ps' : List Nat} {F A : Nat → Prop} (h : RP σ x t ps n i [] 0) (hR : rX x F A σ σ') (h1 : ¬ F (fid 8 1) ∧ ¬ F (fid 8 5) ∧ ¬ F (fid 8 11) ∧ ¬ F (fid 8 12)) (hA : ¬ A 66 ∧ ¬ A 67 ∧ ¬ A 68 ∧ ¬ A 69) (hp : Prm σ' x ps') (hi : sI σ' (fid 8 6) (x + 65) = nI i' ∧ i' < n) : RP σ' x t ps' n i' [] 0 := by
  obtain ⟨⟨a1, a2, a3⟩, a4, a5, a6, _⟩ := h
  have q : RN σ' x t n := RN.rX ⟨a1, a2⟩ hR h1.1 h1.2.1 hA
  exact ⟨⟨q.1, q.2, hp⟩, hi, by rw [hR.i h1.2.2.1]; exact a5, by rw [hR.i h1.2.2.2]; exact a6, fun j it hj => by cases hj⟩
theorem ch_52 {σ0 : St} {x n : Nat} {t : List Nat} : ∀ (f k i : Nat) (ps : List Nat) (σ : St) (r : Nat), n - i < f → i < n → pml t r i ≠ none → 5 ≤ ps.length + k → ps.length ≤ 4 → rX x fH aH σ0 σ → Frw σ x t → RP σ x t ps n i [] 0 → frm t = 2 → hdp t k i ps = hdf t →
    Hx (fX4_head_52 f σ (x + 65) (nI 0)) (Hpo x t n σ0) := by
  intro f
  induction f with
  | zero => intro k i ps σ r h; omega
  | succ f ih =>
    intro k i ps σ r hf hi hpm hk hps hR hF h hfr hh
    obtain ⟨k, rfl⟩ : ∃ j, k = j + 1 := ⟨k - 1, by omega⟩
    obtain ⟨g1, g2, g3, g4⟩ := h.g
    have hn := h.1.n
    have hx := h.1.1.1
    obtain ⟨p1, p2, p3⟩ := h.1.2.2
    obtain ⟨r, rfl⟩ : ∃ j, r = j + 1 := by
      cases r with
      | zero => exact absurd rfl hpm
      | succ r => exact ⟨r, rfl⟩
    rw [pml_s] at hpm
    have c1 : (tk t i).1 = 1 := by
      apply Classical.byContradiction
      intro q
      rw [if_pos q] at hpm
      exact hpm rfl
    rw [if_neg (fun q => q c1)] at hpm
    have nx := h.1.2.1.2.2
    have hi1 := nx.nx hi ⟨by omega, by omega⟩
    have hw := (tk_b (t := t) i).2.2.2.1 c1
    have hw2 := hw.2
    have hb1 := (tk_b (t := t) (i + 1)).2.2.2.2.1
    rw [n_fX4_head_52]
    refine Hx.ce (sm_eq (by omega) (by omega)) (fun _ => ?_) (fun c => absurd rfl c)
    try rw [g1]
    refine hx_bs ?_
    try rw [g2]
    refine hx_bs (Hx.ce (sm_le (by omega) (by omega)) (fun c => absurd c (by omega)) (fun _ => ?_))
    refine hx_bs ?_
    try rw [g4]
    refine hx_bs ?_
    try rw [cp_word h.1 hi c1]
    refine hx_cs ?_
    try rw [(sm_gI hx.k9).trans (congrArg some p1)]
    refine hx_bs ?_
    try rw [xf_8_16 hx]
    refine hx_bs ?_
    have k74 : sK σ (x + 74) = 100 := hx.kd 74 100 (by decide)
    have n74 : sN σ (x + 74) = 4 := hx.nn 74 4 (by decide)
    rw [sm_aln k74 ⟨by omega, by omega⟩, n74]
    unfold hdp at hh
    refine hx_bs (Hx.ce (sm_le (by omega) (by omega)) (fun c => ?_) (fun c => ?_))
    · rw [if_pos (Or.inl c)] at hh
      exact Hx.ret ⟨hR, hF, Or.inr ⟨rfl, i, ps, hh.symm, h⟩⟩
    · try rw [g4]
      refine hx_bs ?_
      rw [cp_param hx h.1.2.2 (by omega)]
      have hfx : ∀ k, fix ps (tk t i).2.1 = some k → k < 4 := fun k hk => Nat.lt_of_lt_of_le (fix_lt hk) p2
      refine hx_cs (Hx.ce (oi_m1 (fun k hk => by have := hfx k hk; omega)) (fun c4 => ?_) (fun c4 => ?_))
      · rw [if_neg (fun q => q.elim (fun q => by omega) (fun q => q c4))] at hh
        try rw [xf_8_16 hx]
        refine hx_bs ?_
        try rw [(sm_gI hx.k9).trans (congrArg some p1)]
        refine hx_bs ?_
        try rw [sm_st k74 (by omega) (by omega)]
        refine hx_bs ?_
        have r1 : rX x fH aH σ (wA σ (x + 74) ps.length (nI (tk t i).2.1)) := rX.wA rfl
        try rw [show gI (wA σ (x + 74) ps.length (nI (tk t i).2.1)) 8 17 (x + 65) = some (nI ps.length) from (sm_gI hx.k9).trans (congrArg some p1)]
        refine hx_bs ?_
        try rw [sm_add, sm_pI (show sK (wA σ (x + 74) ps.length (nI (tk t i).2.1)) (x + 65) = 8 + 1 from hx.k9)]
        refine hx_bs ?_
        have r2 := r1.tr (rX.wI (k := fid 8 17) (v := nI (ps.length + 1)) (F := fH) (A := aH) (Or.inr (Or.inr (Or.inr (Or.inr rfl))))) (fun _ q => q) (fun _ q => q)
        have hp2 : Prm (wI (wA σ (x + 74) ps.length (nI (tk t i).2.1)) (fid 8 17) (x + 65) (nI (ps.length + 1))) x (ps ++ [(tk t i).2.1]) := by
          refine ⟨by rw [List.length_append, List.length_singleton]; exact sI_wI_eq, by rw [List.length_append, List.length_singleton]; omega, fun j w hj => ?_⟩
          show sA (wA σ (x + 74) ps.length (nI (tk t i).2.1)) (x + 74) j = nI w ∧ _
          by_cases e : j < ps.length
          · rw [List.getElem?_append_left e] at hj
            rw [sA_wA_j (by omega)]
            exact p3 j w hj
          · have hjl := (List.getElem?_eq_some_iff.mp hj).1
            rw [List.length_append, List.length_singleton] at hjl
            obtain rfl : j = ps.length := by omega
            rw [List.getElem?_append_right (by omega), Nat.sub_self] at hj
            have hj9 : (tk t i).2.1 = w := Option.some.inj hj
            subst hj9
            exact ⟨sA_wA_eq, by omega⟩
        have h2 : RP (wI (wA σ (x + 74) ps.length (nI (tk t i).2.1)) (fid 8 17) (x + 65) (nI (ps.length + 1))) x t (ps ++ [(tk t i).2.1]) n i [] 0 :=
          h.mk r2 (by unfold fH; decide) (by unfold aH; omega) hp2 ⟨(sI_wI_f (by decide)).trans h.2.1.1, hi⟩
        have hF2 : Frw (wI (wA σ (x + 74) ps.length (nI (tk t i).2.1)) (fid 8 17) (x + 65) (nI (ps.length + 1))) x t := hF.eq (sI_wI_f (by decide)) (sI_wI_f (by decide)) (sI_wI_f (by decide))
        generalize wI (wA σ (x + 74) ps.length (nI (tk t i).2.1)) (fid 8 17) (x + 65) (nI (ps.length + 1)) = σ2 at *
        have hx2 := h2.1.1.1
        obtain ⟨k1, k2, k3, k4⟩ := h2.g
        have nxt : ∀ j, j < n → rX x fH aH σ2 (wI σ2 (fid 8 6) (x + 65) (nI j)) ∧ RP (wI σ2 (fid 8 6) (x + 65) (nI j)) x t (ps ++ [(tk t i).2.1]) n j [] 0 ∧ Frw (wI σ2 (fid 8 6) (x + 65) (nI j)) x t := by
          intro j hj
          have r : rX x fH aH σ2 (wI σ2 (fid 8 6) (x + 65) (nI j)) := rX.wI (Or.inl rfl)
          refine ⟨r, h2.mk r (by unfold fH; decide) (by unfold aH; omega) ⟨(sI_wI_f (by decide)).trans hp2.1, hp2.2⟩ ⟨sI_wI_eq, hj⟩, hF2.eq (sI_wI_f (by decide)) (sI_wI_f (by decide)) (sI_wI_f (by decide))⟩
        have nxt2 : ∀ (j j' : Nat) (σ3 : St) , RP σ3 x t (ps ++ [(tk t i).2.1]) n j [] 0 → j' < n → Frw σ3 x t → rX x fH aH σ3 (wI σ3 (fid 8 6) (x + 65) (nI j')) ∧ RP (wI σ3 (fid 8 6) (x + 65) (nI j')) x t (ps ++ [(tk t i).2.1]) n j' [] 0 ∧ Frw (wI σ3 (fid 8 6) (x + 65) (nI j')) x t := by
          intro j j' σ3 h3 hj hF3
          have r : rX x fH aH σ3 (wI σ3 (fid 8 6) (x + 65) (nI j')) := rX.wI (Or.inl rfl)
          refine ⟨r, h3.mk r (by unfold fH; decide) (by unfold aH; omega) ⟨(sI_wI_f (by decide)).trans h3.1.2.2.1, h3.1.2.2.2⟩ ⟨sI_wI_eq, hj⟩, hF3.eq (sI_wI_f (by decide)) (sI_wI_f (by decide)) (sI_wI_f (by decide))⟩
        have hR2 := hR.tr r2 (fun _ q => q) (fun _ q => q)
        try rw [k1]
        refine hx_bs ?_
        try rw [k4]
        refine hx_bs ?_
        try rw [sm_add, cp_tk h2.1 hi1]
        refine hx_cs (Hx.ce (sm_eq (by omega) (by omega)) (fun c5 => ?_) (fun c5 => ?_))
        · rw [if_pos c5] at hh
          have hi2 : i + 2 < n := nx.nx hi1 ⟨by omega, by omega⟩
          have c6 : (tk t (i + 2)).1 = 61 := by
            rw [if_neg (by omega)] at hpm
            apply Classical.byContradiction
            intro q
            rw [if_neg (fun q2 => q q2.2)] at hpm
            exact hpm rfl
          have hi3 : i + 3 < n := nx.nx hi2 ⟨by omega, by omega⟩
          obtain ⟨r3, h3, hF3⟩ := nxt (i + 2) hi2
          obtain ⟨r4, h4, hF4⟩ := nxt2 (i + 2) (i + 3) _ h3 hi3 hF3
          obtain ⟨f', rfl⟩ : ∃ f', f = f' + 1 := ⟨f - 1, by omega⟩
          try rw [n_fX4_head_139, k1]
          refine hx_bs ?_
          try rw [sm_add, sm_pI hx2.k9]
          refine hx_bs ?_
          rw [n_fX4_head_52]
          refine Hx.ce (sm_eq (by omega) (by omega)) (fun c => absurd c (by omega)) (fun _ => ?_)
          try rw [n_fX4_head_153, h3.g.1]
          refine hx_bs ?_
          try rw [sm_add, sm_pI h3.1.1.1.k9]
          exact hx_bs (Hx.ret ⟨(hR2.tr r3 (fun _ q => q) (fun _ q => q)).tr r4 (fun _ q => q) (fun _ q => q), hF4, Or.inl ⟨rfl, i + 3, ps ++ [(tk t i).2.1], hh.symm, h4⟩⟩)
        · rw [if_neg c5] at hh
          have c6 : (tk t (i + 1)).1 = 44 := by
            apply Classical.byContradiction
            intro q
            rw [if_neg q, if_neg (fun q2 => c5 q2.1)] at hpm
            exact hpm rfl
          rw [if_pos c6] at hpm
          have hi2 : i + 2 < n := nx.nx hi1 ⟨by omega, by omega⟩
          obtain ⟨r3, h3, hF3⟩ := nxt (i + 2) hi2
          try rw [n_fX4_head_139, k1]
          refine hx_bs ?_
          try rw [sm_add, sm_pI hx2.k9]
          refine hx_bs ?_
          exact ih k (i + 2) (ps ++ [(tk t i).2.1]) _ r (by omega) hi2 hpm (by rw [List.length_append, List.length_singleton]; omega) (by rw [List.length_append, List.length_singleton]; omega) (hR2.tr r3 (fun _ q => q) (fun _ q => q)) hF3 h3 hfr hh
      · rw [if_pos (Or.inr c4)] at hh
        exact Hx.ret ⟨hR, hF, Or.inr ⟨rfl, i, ps, hh.symm, h⟩⟩
theorem ch_head {σ : St} {x n w0 wp0 : Nat} {t : List Nat} (h : RP σ x t [] n 0 [] 0) (hw : Wpo σ x w0 wp0) : Hx (fX4_head σ (x + 65)) (Hpo x t n σ) := by
  have hn := h.1.n
  have hx := h.1.1.1
  have nx := h.1.2.1.2.2
  have hl := h.1.2.1.1.1.2
  have hfb := frm_b t
  have tkb := tk_b (t := t) 0
  have r1 : rX x fH aH σ (wI σ (fid 8 13) (x + 65) (nI (frm t))) := rX.wI (Or.inr (Or.inl rfl))
  have e13 : sI (wI σ (fid 8 13) (x + 65) (nI (frm t))) (fid 8 13) (x + 65) = nI (frm t) := sI_wI_eq
  have h1 : RP (wI σ (fid 8 13) (x + 65) (nI (frm t))) x t [] n 0 [] 0 := h.mk r1 (by unfold fH; decide) (by unfold aH; omega) ⟨(sI_wI_f (by decide)).trans h.1.2.2.1, h.1.2.2.2⟩ ⟨(sI_wI_f (by decide)).trans h.2.1.1, h.2.1.2⟩
  try rw [n_fX4_head, h.g.2.2.2]
  refine hx_bs ?_
  try rw [ch_form h.1]
  refine hx_cs ?_
  try rw [sm_pI hx.k9]
  refine hx_bs ?_
  try rw [(sm_gI (σ := wI σ (fid 8 13) (x + 65) (nI (frm t))) hx.k9).trans (congrArg some e13)]
  refine hx_bs (Hx.ce (sm_eq (by omega) (by omega)) (fun c => ?_) (fun c => ?_))
  · refine Hx.ret ⟨r1, ⟨e13, w0, wp0, ⟨⟨(sI_wI_f (by decide)).trans hw.1.1, hw.1.2⟩, (sI_wI_f (by decide)).trans hw.2.1, hw.2.2⟩, fun q => absurd c q⟩, Or.inl ⟨rfl, 0, [], ?_, h1⟩⟩
    unfold hdf
    rw [if_pos c]
  · have c01 : (tk t 0).1 = 1 := by
      rcases Nat.lt_or_ge (frm t) 2 with q | q
      · exact (frm_1 (by omega)).1
      · exact (frm_2 (by omega)).1
    have c11 : (tk t 1).1 = 61 ∨ (tk t 1).1 = 40 := by
      rcases Nat.lt_or_ge (frm t) 2 with q | q
      · exact Or.inl (frm_1 (by omega)).2
      · exact Or.inr (frm_2 (by omega)).2.1
    have hw1 := tkb.2.2.2.1 c01
    have hw2 := hw1.2
    have n1 : 1 < n := nx.nx nx.1 ⟨by omega, by omega⟩
    have n2 : 2 < n := nx.nx n1 ⟨by omega, by omega⟩
    have hx1 := hx.rX r1
    generalize wI σ (fid 8 13) (x + 65) (nI (frm t)) = σ1 at *
    try rw [h1.g.2.2.2]
    refine hx_bs ?_
    try rw [cp_word h1.1 nx.1 c01]
    refine hx_cs ?_
    try rw [sm_pI hx1.k9]
    refine hx_bs ?_
    have r2 : rX x fH aH σ1 (wI σ1 (fid 8 14) (x + 65) (nI (tk t 0).2.1)) := rX.wI (Or.inr (Or.inr (Or.inl rfl)))
    have h2 : RP (wI σ1 (fid 8 14) (x + 65) (nI (tk t 0).2.1)) x t [] n 0 [] 0 := h1.mk r2 (by unfold fH; decide) (by unfold aH; omega) ⟨(sI_wI_f (by decide)).trans h1.1.2.2.1, h1.1.2.2.2⟩ ⟨(sI_wI_f (by decide)).trans h1.2.1.1, h1.2.1.2⟩
    have e132 : sI (wI σ1 (fid 8 14) (x + 65) (nI (tk t 0).2.1)) (fid 8 13) (x + 65) = nI (frm t) := (sI_wI_f (by decide)).trans e13
    have e142 : sI (wI σ1 (fid 8 14) (x + 65) (nI (tk t 0).2.1)) (fid 8 14) (x + 65) = nI (tk t 0).2.1 := sI_wI_eq
    have hR2 := r1.tr r2 (fun _ q => q) (fun _ q => q)
    have hx2 := hx1.rX r2
    generalize wI σ1 (fid 8 14) (x + 65) (nI (tk t 0).2.1) = σ2 at *
    try rw [h2.g.2.2.2]
    refine hx_bs ?_
    try rw [cp_start h2.1 nx.1]
    refine hx_cs ?_
    try rw [sm_pI hx2.k9]
    refine hx_bs ?_
    have r3 : rX x fH aH σ2 (wI (wI σ2 (fid 8 15) (x + 65) (nI (tk t 0).2.2.1)) (fid 8 6) (x + 65) (nI 2)) := (rX.wI (k := fid 8 15) (v := nI (tk t 0).2.2.1) (F := fH) (A := aH) (Or.inr (Or.inr (Or.inr (Or.inl rfl))))).tr (rX.wI (k := fid 8 6) (v := nI 2) (F := fH) (A := aH) (Or.inl rfl)) (fun _ q => q) (fun _ q => q)
    try rw [sm_pI (show sK (wI σ2 (fid 8 15) (x + 65) (nI (tk t 0).2.2.1)) (x + 65) = 8 + 1 from hx2.k9)]
    refine hx_bs ?_
    have h3 : RP (wI (wI σ2 (fid 8 15) (x + 65) (nI (tk t 0).2.2.1)) (fid 8 6) (x + 65) (nI 2)) x t [] n 2 [] 0 := h2.mk r3 (by unfold fH; decide) (by unfold aH; omega) ⟨((sI_wI_f (by decide)).trans (sI_wI_f (by decide))).trans h2.1.2.2.1, h2.1.2.2.2⟩ ⟨sI_wI_eq, n2⟩
    have e133 : sI (wI (wI σ2 (fid 8 15) (x + 65) (nI (tk t 0).2.2.1)) (fid 8 6) (x + 65) (nI 2)) (fid 8 13) (x + 65) = nI (frm t) := ((sI_wI_f (by decide)).trans (sI_wI_f (by decide))).trans e132
    have hF3 : Frw (wI (wI σ2 (fid 8 15) (x + 65) (nI (tk t 0).2.2.1)) (fid 8 6) (x + 65) (nI 2)) x t := ⟨e133, _, _, ⟨⟨((sI_wI_f (by decide)).trans (sI_wI_f (by decide))).trans e142, hw2⟩, (sI_wI_f (by decide)).trans sI_wI_eq, by have := tkb.2.2.2.2.2.2; omega⟩, fun _ => ⟨rfl, rfl⟩⟩
    have hR3 := hR2.tr r3 (fun _ q => q) (fun _ q => q)
    generalize wI (wI σ2 (fid 8 15) (x + 65) (nI (tk t 0).2.2.1)) (fid 8 6) (x + 65) (nI 2) = σ3 at *
    try rw [(sm_gI h3.1.1.1.k9).trans (congrArg some e133)]
    refine hx_bs (Hx.ce (sm_eq (by omega) (by omega)) (fun c2 => ?_) (fun c2 => ?_))
    · refine Hx.ret ⟨hR3, hF3, Or.inl ⟨rfl, 2, [], ?_, h3⟩⟩
      unfold hdf
      rw [if_neg c, if_pos c2]
    · obtain ⟨_, _, a, ha⟩ := frm_2 (show frm t = 2 by omega)
      refine ch_52 FU 5 2 [] σ3 300 (by show n - 2 < 4294967296; omega) n2 (by rw [ha]; exact fun q => by cases q) (by decide) (by decide) hR3 hF3 h3 (by omega) ?_
      unfold hdf
      rw [if_neg c, if_neg c2]
