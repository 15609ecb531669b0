/-! ===== the class' Reader reads a sum ===== -/
theorem hdk_sgo {m b p : Nat} {o : Option Nat} {k : Nat} {S : List Wt} (h0 : 0 < sgo b) (h : rk (sgo b) < m) : hdk m ((sgo b, p, o, k) :: S) := by
  intro w hw
  cases hw
  rintro ⟨_, q⟩
  have q9 : m ≤ rk (sgo b) := q
  omega
theorem cg_sum_10 {x n o i : Nat} {t ps : List Nat} {q : St → Nat → Int32 → Option (St × Int32)} {S : List Wt} {L : List It} {σ0 : St} (hL : L.length ≤ i) (hq : CQ x t ps n 2 o q) (hS : opn S = o) (hd : hdk 1 S) : ∀ (f j : Nat) (P : List Wt) (I Lc : List It) (σ : St), n - j < f → i ≤ j → RP σ x t ps n j Lc (cnv Lc) → Lc.length + i ≤ L.length + j →
    (∀ w ∈ P, w.1 ≠ 40 ∧ 1 ≤ rk w.1) → Rt t ps (false, S, L, i) (.inl (true, P ++ S, I, j)) → Lc = I ++ P.map emw → spc 2 (tk t j).1 → rX x fP aP σ0 σ → Hx (fX4_readSum_10 q f σ (x + 65) (nI o)) (Pst x t ps n 1 S L i σ0) := by
  intro f
  induction f with
  | zero => intro j P I Lc σ h; omega
  | succ f ih =>
    intro j P I Lc σ hf hij h hLc hP hr he hs hR
    obtain ⟨il, nl⟩ := h.il
    obtain ⟨g1, g2, g3, g4⟩ := h.g
    have hb := (tk_b (t := t) j).2.2.2.2.1
    have go : ∀ k, 0 < k → sgo (tk t j).1 = k → Hx (fX4_readSum_65 q (fX4_readSum_10 q f) σ (x + 65) (nI o) (nI k)) (Pst x t ps n 1 S L i σ0) := by
      intro k hk0 hk
      have hk3 := hs.2.2.1 (Nat.le_refl _)
      have hgs := sgo_s (show 0 < sgo (tk t j).1 by omega)
      have hg : gon (tk t j) := ⟨hgs.1, hgs.2.2.2.2.2.1⟩
      try rw [n_fX4_readSum_65, g1]
      refine hx_bs ?_
      try rw [g4]
      refine hx_bs ?_
      try rw [cp_start h.1 il]
      refine hx_cs ?_
      obtain ⟨e2, r2, h2⟩ := h.nx hg
      try rw [g1]
      refine hx_bs ?_
      try rw [e2]
      refine hx_bs ?_
      try rw [h2.g.2.2.2]
      refine hx_bs ?_
      have hrk := sgo_rk (show 0 < sgo (tk t j).1 by omega)
      rw [if_neg (by omega)] at hrk
      have hm := hr.tr (Rt.st (syB_two (ps := ps) (I := I) hP hd (by omega) hrk) Rt.rf)
      rw [← he] at hm
      refine Hx.bd (hq ((sgo (tk t j).1, (tk t j).2.2.1, none, 1) :: S) Lc (j + 1) _ (by rw [opn_cons, opw_sgo, hS]; omega) (hdk_sgo (by omega) (by omega)) h2 (by omega)) (fun σ3 v h3 => ?_)
      obtain ⟨r3, i', L', p1, p2, p3, p4⟩ := h3
      have hRR := (hR.tr r2 (fun _ q => q) (fun _ q => q)).tr r3 (fun _ q => q) (fun _ q => q)
      have il' := p1.il
      rcases p4 with ⟨rfl, p4⟩ | ⟨rfl, P', I', hP', p4, p5, p6⟩
      · refine Hx.ce (sm_eq (by omega) (by omega)) (fun _ => ?_) (fun c => absurd rfl c)
        exact Hx.ret ⟨hRR, i', L', p1, by omega, by omega, Or.inl ⟨rfl, hm.tr p4⟩⟩
      · refine Hx.ce (sm_eq (by omega) (by omega)) (fun c => absurd c (by omega)) (fun _ => ?_)
        try rw [p1.g.2.2.2]
        refine hx_bs ?_
        refine Hx.bd (cp_emit (it := (sgo (tk t j).1, 0, 0, (tk t j).2.2.1, q0)) p1 (by omega) ((ckd_sgo (by omega)).trans hk) (by rw [if_neg (show ¬ sgo (tk t j).1 = 30 by omega)]) rfl rfl) (fun σ4 _ h4 => ?_)
        refine ih i' (P' ++ [(sgo (tk t j).1, (tk t j).2.2.1, none, 1)]) I' (L' ++ [(sgo (tk t j).1, 0, 0, (tk t j).2.2.1, q0)]) σ4 (by omega) (by omega) ?_ (by rw [List.length_append, List.length_singleton]; omega) (fun w hw => ?_) ?_ ?_ p6 (hRR.tr h4.1 (fun _ q => q) (fun _ q => q))
        · rw [cnv_app, cnv_1, if_neg (show ¬ sgo (tk t j).1 = 30 by omega), Nat.add_zero]; exact h4.2
        · rcases List.mem_append.mp hw with hw | hw
          · have := hP' w hw; exact ⟨this.1, by omega⟩
          · rw [List.mem_singleton.mp hw]
            refine ⟨?_, ?_⟩
            · show sgo (tk t j).1 ≠ 40; omega
            · show 1 ≤ rk (sgo (tk t j).1); omega
        · rw [List.append_assoc]; exact hm.tr p4
        · rw [List.map_append, ← List.append_assoc, ← p5]; rfl
    have go2 : ∀ b, (b = 43 ∨ b = 45) → (tk t j).1 = b → Hx (fX4_readSum_47 q (fX4_readSum_10 q f) σ (x + 65) (nI o)) (Pst x t ps n 1 S L i σ0) := by
      intro b hbb hj
      try rw [n_fX4_readSum_47, g1]
      refine hx_bs ?_
      try rw [g4]
      refine hx_bs ?_
      try rw [cp_tk h.1 il]
      refine hx_cs (Hx.ce (sm_eq (by omega) (by omega)) (fun c => go 1 (by omega) (by rw [c]; rfl)) (fun c => go 2 (by omega) ?_))
      have e45 : (tk t j).1 = 45 := by omega
      rw [e45]
      rfl
    try rw [n_fX4_readSum_10, g1]
    refine hx_bs ?_
    try rw [g2]
    refine hx_bs (Hx.ce (sm_le (by omega) (by omega)) (fun c => absurd c (by omega)) (fun _ => ?_))
    refine hx_bs ?_
    try rw [g4]
    refine hx_bs ?_
    try rw [cp_tk h.1 il]
    refine hx_cs (Hx.ce (sm_eq (by omega) (by omega)) (fun c => go2 43 (Or.inl rfl) c) (fun c => ?_))
    try rw [g1]
    refine hx_bs ?_
    try rw [g4]
    refine hx_bs ?_
    try rw [cp_tk h.1 il]
    refine hx_cs (Hx.ce (sm_eq (by omega) (by omega)) (fun c2 => go2 45 (Or.inr rfl) c2) (fun c2 => ?_))
    have h0 : sgo (tk t j).1 = 0 := by
      have := hs.2.2.1 (Nat.le_refl _)
      unfold sgo at this ⊢
      rw [if_neg c, if_neg c2] at this ⊢
      split
      · rename_i d; rw [if_pos d] at this; omega
      rename_i d
      rw [if_neg d] at this
      split
      · rename_i d; rw [if_pos d] at this; omega
      rename_i d
      rw [if_neg d] at this
      split
      · rename_i d; rw [if_pos d] at this; omega
      · rfl
    exact Hx.ret ⟨hR, j, Lc, h, hij, hLc, Or.inr ⟨rfl, P, I, hP, hr, he, ⟨hs.1, hs.2.1, fun _ => hs.2.2.1 (Nat.le_refl _), fun _ => h0⟩⟩⟩
theorem cg_sum {x n o : Nat} {t ps : List Nat} {q : St → Nat → Int32 → Option (St × Int32)} (hq : CQ x t ps n 2 o q) : CQ x t ps n 1 o (fX4_readSum q) := by
  intro S L i σ hS hd h hL
  try rw [n_fX4_readSum, h.g.2.2.2]
  refine hx_bs ?_
  refine Hx.bd (hq S L i σ hS (fun w hw q => hd w hw ⟨q.1, by omega⟩) h hL) (fun σ2 v h2 => ?_)
  obtain ⟨r2, i', L', p1, p2, p3, p4⟩ := h2
  have il' := p1.il
  rcases p4 with ⟨rfl, p4⟩ | ⟨rfl, P, I, hP, p4, p5, p6⟩
  · refine Hx.ce (sm_eq (by omega) (by omega)) (fun _ => ?_) (fun c => absurd rfl c)
    exact Hx.ret ⟨r2, i', L', p1, p2, p3, Or.inl ⟨rfl, p4⟩⟩
  · refine Hx.ce (sm_eq (by omega) (by omega)) (fun c => absurd c (by omega)) (fun _ => ?_)
    exact cg_sum_10 hL hq hS hd FU i' P I L' σ2 (by show n - i' < 4294967296; omega) p2 p1 p3 (fun w hw => ⟨(hP w hw).1, by have := (hP w hw).2; omega⟩) p4 p5 p6 r2
/-- to a depth that is enough -/
theorem cg_all {x n : Nat} {t ps : List Nat} : ∀ (k d o : Nat), 12 - o ≤ k → o ≤ 12 → 3 + 5 * k ≤ d → CM x t ps n o (fRd d).2.2.1 ∧ CQ x t ps n 2 o (fRd (d + 1)).2.1 ∧ CQ x t ps n 1 o (fRd (d + 2)).1 := by
  intro k
  induction k with
  | zero =>
    intro d o hk ho hd
    obtain ⟨e, rfl⟩ : ∃ e, d = e + 3 := ⟨d - 3, by omega⟩
    have hM : CM x t ps n o (fRd (e + 3)).2.2.1 := cg_minus ho (cg_opened (q := (fRd (e + 1)).2.2.1) ho (fun c => absurd c (by omega))) (cg_plain (qc := (fRd (e + 1)).2.2.2.2.2) (q := (fRd (e + 1)).1) ho (cg_call (q := (fRd e).1) ho (fun c => absurd c (by omega))) (fun c => absurd c (by omega)))
    exact ⟨hM, cg_product hM, cg_sum (cg_product hM)⟩
  | succ k ih =>
    intro d o hk ho hd
    obtain ⟨e, rfl⟩ : ∃ e, d = e + 5 := ⟨d - 5, by omega⟩
    have hM : CM x t ps n o (fRd (e + 5)).2.2.1 := by
      refine cg_minus ho (cg_opened (q := (fRd (e + 3)).2.2.1) ho (fun c => (ih (e + 3) (o + 1) (by omega) (by omega) (by omega)).1)) ?_
      refine cg_plain (qc := (fRd (e + 3)).2.2.2.2.2) (q := (fRd (e + 3)).1) ho ?_ (fun c => (ih (e + 1) (o + 1) (by omega) (by omega) (by omega)).2.2)
      exact cg_call (q := (fRd (e + 2)).1) ho (fun c => (ih e (o + 1) (by omega) (by omega) (by omega)).2.2)
    exact ⟨hM, cg_product hM, cg_sum (cg_product hM)⟩
theorem cg_readSum {x n : Nat} {t ps : List Nat} : CQ x t ps n 1 0 gX4_readSum := (cg_all (x := x) (n := n) (t := t) (ps := ps) 12 98 0 (by omega) (by omega) (by omega)).2.2
