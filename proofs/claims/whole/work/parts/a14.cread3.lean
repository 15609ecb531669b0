/-! ===== the class' Reader: read ===== -/
def fE (f : Nat) : Prop := f ≠ fid 8 14 ∧ f ≠ fid 8 15
def fAll (_f : Nat) : Prop := True
def aAll (o : Nat) : Prop := 66 ≤ o ∧ o ≤ 74
theorem Wpo.rX {σ σ' : St} {x w wp : Nat} (h : Wpo σ x w wp) (hR : rX x fE aAll σ σ') : Wpo σ' x w wp :=
  ⟨⟨by rw [hR.i (by unfold fE; decide)]; exact h.1.1, h.1.2⟩, by rw [hR.i (by unfold fE; decide)]; exact h.2.1, h.2.2⟩
/-- behind the tokens -/
theorem rd_b {x n w0 wp0 : Nat} {t : List Nat} {σ σ1 : St} (hp : HP (PX x) σ) (hx : XS σ x) (hQ : SQ σ x) (hW : Wpo σ x w0 wp0) (hR : rX x fE aAll σ σ1) (hN : RN σ1 x t n) :
    Hx (Option.bind (pI σ1 8 11 (x + 65) (nI 0)) fun σ6 => Option.bind (pI σ6 8 12 (x + 65) (nI 0)) fun σ7 => Option.bind (pI σ7 8 17 (x + 65) (nI 0)) fun σ8 => Option.bind (pI σ8 8 6 (x + 65) (nI 0)) fun σ9 => Option.bind (ckK σ9 9 (x + 65)) fun _ => cb (fX4_head σ9 (x + 65)) fun σ10 v11 => if v11 = (nI 0) then ((fX4_read_97 σ10 (x + 65))) else ((Option.bind (ckK σ10 9 (x + 65)) fun _ => cb (gX4_readSum σ10 (x + 65) (nI 0)) fun σ14 v15 => if v15 = (nI 0) then ((fX4_read_97 σ14 (x + 65))) else ((Option.bind (gI σ14 8 6 (x + 65)) fun v18 => Option.bind (ckK σ14 9 (x + 65)) fun _ => cb (fX4_tokenAt σ14 (x + 65) v18) fun σ19 v20 => if v20 = (nI 0) then ((nm (nw 14 0 5 σ19) fun σ23 => nm (sz σ19) fun a24 => Option.bind (gF σ23 8 7 (x + 65)) fun v25 => Option.bind (gI σ23 8 11 (x + 65)) fun v26 => cb (fJ7_copyOf_59c91 σ23 v25 v26) fun σ27 a28 => Option.bind (gF σ27 8 8 (x + 65)) fun v29 => Option.bind (gI σ27 8 11 (x + 65)) fun v30 => cb (fJ7_copyOf_59c91 σ27 v29 v30) fun σ31 a32 => Option.bind (gF σ31 8 9 (x + 65)) fun v33 => Option.bind (gI σ31 8 11 (x + 65)) fun v34 => cb (fJ7_copyOf_59c91 σ31 v33 v34) fun σ35 a36 => Option.bind (gF σ35 8 10 (x + 65)) fun v37 => Option.bind (gI σ35 8 11 (x + 65)) fun v38 => cb (fJ7_copyOf_59c91 σ35 v37 v38) fun σ39 a40 => Option.bind (ckK σ39 9 (x + 65)) fun _ => cb (fX4_readNumbers σ39 (x + 65) (x + 18)) fun σ41 a42 => Option.bind (ckK σ41 14 a24) fun _ => cb (fX9_init σ41 a24 a28 a32 a36 a40 a42) fun σ44 v45 => Option.bind (pF σ44 8 18 (x + 65) a24) fun σ47 => some (σ47, ((iz (-1)))))) else ((fX4_read_97 σ19 (x + 65))))))))
      (Rdo x t σ) := by
  obtain ⟨⟨hx1, hkw1⟩, ht1, hrk1, hnt⟩ := id hN
  have hl := ht1.1.2
  have k9 := hx1.k9
  try rw [sm_pI k9]
  refine hx_bs ?_
  try rw [sm_pI (show sK (wI σ1 (fid 8 11) (x + 65) (nI 0)) (x + 65) = 8 + 1 from k9)]
  refine hx_bs ?_
  try rw [sm_pI (show sK (wI (wI σ1 (fid 8 11) (x + 65) (nI 0)) (fid 8 12) (x + 65) (nI 0)) (x + 65) = 8 + 1 from k9)]
  refine hx_bs ?_
  try rw [sm_pI (show sK (wI (wI (wI σ1 (fid 8 11) (x + 65) (nI 0)) (fid 8 12) (x + 65) (nI 0)) (fid 8 17) (x + 65) (nI 0)) (x + 65) = 8 + 1 from k9)]
  refine hx_bs ?_
  have r1 : rX x (fun f => f = fid 8 11 ∨ f = fid 8 12 ∨ f = fid 8 17 ∨ f = fid 8 6) aAll σ1 (wI (wI (wI (wI σ1 (fid 8 11) (x + 65) (nI 0)) (fid 8 12) (x + 65) (nI 0)) (fid 8 17) (x + 65) (nI 0)) (fid 8 6) (x + 65) (nI 0)) :=
    (((rX.wI (Or.inl rfl)).tr (rX.wI (F := fun f => f = fid 8 11 ∨ f = fid 8 12 ∨ f = fid 8 17 ∨ f = fid 8 6) (A := aAll) (Or.inr (Or.inl rfl))) (fun _ q => q) (fun _ q => q)).tr (rX.wI (F := fun f => f = fid 8 11 ∨ f = fid 8 12 ∨ f = fid 8 17 ∨ f = fid 8 6) (A := aAll) (Or.inr (Or.inr (Or.inl rfl)))) (fun _ q => q) (fun _ q => q)).tr (rX.wI (F := fun f => f = fid 8 11 ∨ f = fid 8 12 ∨ f = fid 8 17 ∨ f = fid 8 6) (A := aAll) (Or.inr (Or.inr (Or.inr rfl)))) (fun _ q => q) (fun _ q => q)
  have i11 : sI (wI (wI (wI (wI σ1 (fid 8 11) (x + 65) (nI 0)) (fid 8 12) (x + 65) (nI 0)) (fid 8 17) (x + 65) (nI 0)) (fid 8 6) (x + 65) (nI 0)) (fid 8 11) (x + 65) = nI 0 := by rw [sI_wI_f (by decide), sI_wI_f (by decide), sI_wI_f (by decide), sI_wI_eq]
  have i12 : sI (wI (wI (wI (wI σ1 (fid 8 11) (x + 65) (nI 0)) (fid 8 12) (x + 65) (nI 0)) (fid 8 17) (x + 65) (nI 0)) (fid 8 6) (x + 65) (nI 0)) (fid 8 12) (x + 65) = nI 0 := by rw [sI_wI_f (by decide), sI_wI_f (by decide), sI_wI_eq]
  have i17 : sI (wI (wI (wI (wI σ1 (fid 8 11) (x + 65) (nI 0)) (fid 8 12) (x + 65) (nI 0)) (fid 8 17) (x + 65) (nI 0)) (fid 8 6) (x + 65) (nI 0)) (fid 8 17) (x + 65) = nI 0 := by rw [sI_wI_f (by decide), sI_wI_eq]
  have i6 : sI (wI (wI (wI (wI σ1 (fid 8 11) (x + 65) (nI 0)) (fid 8 12) (x + 65) (nI 0)) (fid 8 17) (x + 65) (nI 0)) (fid 8 6) (x + 65) (nI 0)) (fid 8 6) (x + 65) = nI 0 := sI_wI_eq
  have wf : ∀ f, f = fid 8 11 ∨ f = fid 8 12 ∨ f = fid 8 17 ∨ f = fid 8 6 → fE f := by
    intro f hf
    unfold fE
    rcases hf with rfl | rfl | rfl | rfl <;> decide
  have hR2 := hR.tr r1 wf (fun _ q => q)
  have hN2 : RN (wI (wI (wI (wI σ1 (fid 8 11) (x + 65) (nI 0)) (fid 8 12) (x + 65) (nI 0)) (fid 8 17) (x + 65) (nI 0)) (fid 8 6) (x + 65) (nI 0)) x t n := by
    obtain ⟨a9, a10⟩ := r1.2.2
    refine ⟨⟨hx1.rX r1, hkw1.rX r1⟩, ⟨⟨by rw [r1.i (by decide)]; exact ht1.1.1, hl⟩, ht1.2⟩, ⟨by rw [r1.i (by decide)]; exact hrk1.1, fun i hi => hrk1.2 i hi⟩, hnt⟩
  have hW2 := hW.rX hR2
  generalize wI (wI (wI (wI σ1 (fid 8 11) (x + 65) (nI 0)) (fid 8 12) (x + 65) (nI 0)) (fid 8 17) (x + 65) (nI 0)) (fid 8 6) (x + 65) (nI 0) = σ2 at *
  have h2 : RP σ2 x t [] n 0 [] 0 := ⟨⟨hN2.1, hN2.2, i17, Nat.zero_le _, fun k w hk => by cases hk⟩, ⟨i6, hnt.1⟩, i11, i12, fun j it hj => by cases hj⟩
  try rw [h2.g.2.2.2]
  refine hx_bs ?_
  refine Hx.bd (ch_head h2 hW2) (fun σ3 v3 h3 => ?_)
  obtain ⟨r3, ⟨f13, w, wp, hWw, hww⟩, h3⟩ := h3
  have hR3 : rX x fAll aAll σ σ3 := (hR2.mo (F' := fAll) (A' := aAll) (fun _ _ => trivial) (fun _ q => q)).tr r3 (fun _ _ => trivial) (fun o q => by unfold aH at q; unfold aAll; omega)
  have fin : ∀ (i nc : Nat) (ps : List Nat) (L : List It) (σ' : St), RP σ' x t ps n i L nc → Rdd t (.inl i) → rX x fAll aAll σ σ' → Wpo σ' x w wp → Hx (fX4_read_97 σ' (x + 65)) (Rdo x t σ) := by
    intro i nc ps L σ' h hr hRR hw
    rw [rd_97 h]
    have hb := (tk_b (t := t) i).2.2.2.2.2.2
    exact Hx.ret (Or.inl ⟨i, hr, rfl, by omega, hRR.W hp hx (fun _ q => q), w, wp, hw⟩)
  rcases h3 with ⟨rfl, i, ps, hh, h4⟩ | ⟨rfl, i, ps, hh, h4⟩
  · refine Hx.ce (sm_eq (by omega) (by omega)) (fun c => absurd c (by omega)) (fun _ => ?_)
    have hpr : prn t = ps.length := by unfold prn; rw [hh]
    have hrd : ∀ r, Rt t ps (false, [], [], i) (.inr r) → Rdd t r := by
      intro r hr
      unfold Rdd
      rw [hh]
      exact hr
    try rw [h4.g.2.2.2]
    refine hx_bs ?_
    refine Hx.bd (cg_readSum (x := x) (n := n) (t := t) (ps := ps) [] [] i σ3 rfl (fun w hw => by cases hw) h4 (Nat.zero_le _)) (fun σ5 v5 h5 => ?_)
    obtain ⟨r5, i', L', p1, p2, p3, p4⟩ := h5
    have hR5 : rX x fAll aAll σ σ5 := hR3.tr r5 (fun _ _ => trivial) (fun o q => by unfold aP at q; unfold aAll; omega)
    have hW5 : Wpo σ5 x w wp := ⟨⟨by rw [r5.i (by unfold fP; decide)]; exact hWw.1.1, hWw.1.2⟩, by rw [r5.i (by unfold fP; decide)]; exact hWw.2.1, hWw.2.2⟩
    rcases p4 with ⟨rfl, p4⟩ | ⟨rfl, P, I, hP, p4, p5, p6⟩
    · refine Hx.ce (sm_eq (by omega) (by omega)) (fun _ => ?_) (fun c => absurd rfl c)
      exact fin i' _ ps L' σ5 p1 (hrd _ p4) hR5 hW5
    · refine Hx.ce (sm_eq (by omega) (by omega)) (fun c => absurd c (by omega)) (fun _ => ?_)
      obtain ⟨k1, k2, k3, k4⟩ := p1.g
      have il' := p1.il
      have hb' := (tk_b (t := t) i').2.2.2.2.1
      rw [List.append_nil] at p4
      have hst : stl 1 P I = ([], I ++ P.map emw) := by
        have := stl_app (S := []) (L := I) hP
        rw [List.append_nil] at this
        rw [this]
        rfl
      try rw [k1]
      refine hx_bs ?_
      try rw [k4]
      refine hx_bs ?_
      try rw [cp_tk p1.1 il'.1]
      refine hx_cs (Hx.ce (sm_eq (by omega) (by omega)) (fun c => ?_) (fun c => ?_))
      · have hr := hrd _ (p4.tr (Rt.en (e := .inr L') (by
          rw [sy_b]
          unfold syB
          rw [if_neg (by omega), if_neg (by omega), if_neg (by omega), if_neg (by omega), if_neg (by rw [p6.2.2.2 (Nat.le_refl _)]; omega), if_pos c, hst, ← p5]
          rfl)))
        have hi := h4.il
        have hok : ∀ it ∈ L', iok t it := by
          have hR9 : Rt t ps (false, [], [], i) (.inr (.inr L')) := by
            have := hr
            unfold Rdd at this
            rw [hh] at this
            exact this
          exact hR9.ok hnt hl h4.1.2.2.2.1 hi.1
        have hnle := hnt.le
        have p3' : L'.length + i ≤ 0 + i' := p3
        refine rd_sum (hR5.W hp hx (fun _ q => q)) (hQ.st (hR5.W hp hx (fun _ q => q)) hx (fun r hr => by simp only [sRd] at hr; omega)) p1 (by omega) (by omega) hok hr hpr ?_ hW5 hww
        rw [r5.i (by unfold fP; decide)]
        exact f13
      · refine fin i' _ ps L' σ5 p1 (hrd _ (p4.tr (Rt.en ?_))) hR5 hW5
        rw [sy_b]
        unfold syB
        rw [if_neg p6.1]
        by_cases c41 : (tk t i').1 = 41
        · rw [if_pos c41, hst]; rfl
        · rw [if_neg c41, if_neg p6.2.1]
          by_cases c44 : (tk t i').1 = 44
          · rw [if_pos c44, hst]; rfl
          · rw [if_neg c44, if_neg (by rw [p6.2.2.2 (Nat.le_refl _)]; omega), if_neg c]
  · refine Hx.ce (sm_eq (by omega) (by omega)) (fun _ => ?_) (fun c => absurd rfl c)
    refine fin i 0 ps [] σ3 h4 ?_ hR3 hWw
    unfold Rdd
    rw [hh]
theorem rd_21 {x w0 wp0 : Nat} {t : List Nat} {σ : St} (hp : HP (PX x) σ) (hx : XS σ x) (hkw : KWs σ x) (hQ : SQ σ x) (hW : Wpo σ x w0 wp0) (hT : ∀ i b, t[i]? = some b → sA σ (x + 1) i = nI b) (hb : ∀ b ∈ t, 0 < b ∧ b < 256) (hl : t.length ≤ 200) : ∀ (f i : Nat) (σ1 : St), t.length - i < f → i ≤ t.length → rX x (fun f => f = fid 8 1) (fun o => o = 66) σ σ1 → sI σ1 (fid 8 1) (x + 65) = nI t.length → (∀ j b, j < i → t[j]? = some b → sA σ1 (x + 66) j = nI b) →
    Hx (fX4_read_21 f σ1 (x + 65) (x + 1) (x + 18) (nI i)) (Rdo x t σ) := by
  intro f
  induction f with
  | zero => intro i σ1 h; omega
  | succ f ih =>
    intro i σ1 hf hi hR h1 ha
    have hx1 := hx.rX hR
    try rw [n_fX4_read_21, (sm_gI hx1.k9).trans (congrArg some h1)]
    refine hx_bs (Hx.ce (sm_le (by omega) (by omega)) (fun c => ?_) (fun c => ?_))
    · have ht1 : RT σ1 x t := ⟨⟨h1, hl⟩, fun j b hj => ha j b (by have := (List.getElem?_eq_some_iff.mp hj).1; omega) hj, hb⟩
      try rw [hx1.c9]
      refine hx_bs ?_
      refine Hx.bd (cr_findTokens ht1 hx1) (fun σ2 _ h2 => ?_)
      obtain ⟨r2, n, hn, hk⟩ := h2
      have ht2 := ht1.rX r2 (by unfold fT; decide) (by unfold aT3; omega)
      refine rd_b hp hx hQ hW ((hR.mo (F' := fE) (A' := aAll) (fun g q => by subst q; unfold fE; decide) (fun o q => by subst q; unfold aAll; omega)).tr r2 (fun g q => by unfold fT at q; subst q; unfold fE; decide) (fun o q => by unfold aT3 at q; unfold aAll; omega)) (n := n) ⟨⟨hx1.rX r2, (hkw.rX hR).rX r2⟩, ht2, hk, hn⟩
    · try rw [xf_8_0 hx1]
      refine hx_bs ?_
      have k1 : sK σ1 (x + 1) = 100 := hx1.kd 1 100 (by decide)
      have n1 : sN σ1 (x + 1) = 200 := hx1.nn 1 200 (by decide)
      have k66 : sK σ1 (x + 66) = 100 := hx1.kd 66 100 (by decide)
      have n66 : sN σ1 (x + 66) = 200 := hx1.nn 66 200 (by decide)
      have hg := tb_lt (show i < t.length by omega)
      try rw [sm_ld k1 (by omega) (by omega), hR.a (by omega), hT i _ hg]
      refine hx_bs ?_
      try rw [sm_st k66 (by omega) (by omega)]
      refine hx_bs (hx_nm ?_)
      rw [sm_add]
      refine ih (i + 1) _ (by omega) (by omega) (hR.tr (rX.wA (F := fun f => f = fid 8 1) (A := fun o => o = 66) rfl) (fun _ q => q) (fun _ q => q)) h1 (fun j b hj hjb => ?_)
      by_cases e : j = i
      · subst e
        rw [hg] at hjb
        have hjb9 : tb t j = b := Option.some.inj hjb
        subst hjb9
        exact sA_wA_eq
      · rw [sA_wA_j e]
        exact ha j b (by omega) hjb
theorem cr_read {x w0 wp0 : Nat} {t : List Nat} {σ : St} (hp : HP (PX x) σ) (hx : XS σ x) (hkw : KWs σ x) (hQ : SQ σ x) (hW : Wpo σ x w0 wp0) (hT : ∀ i b, t[i]? = some b → sA σ (x + 1) i = nI b) (hb : ∀ b ∈ t, 0 < b ∧ b < 256) (hl : t.length ≤ 200) :
    Hx (fX4_read σ (x + 65) (x + 1) (nI t.length) (x + 18)) (Rdo x t σ) := by
  have k1 : sK σ (x + 1) = 100 := hx.kd 1 100 (by decide)
  have n1 : sN σ (x + 1) = 200 := hx.nn 1 200 (by decide)
  have k66 : sK σ (x + 66) = 100 := hx.kd 66 100 (by decide)
  have n66 : sN σ (x + 66) = 200 := hx.nn 66 200 (by decide)
  try rw [n_fX4_read, sm_aln k1 ⟨by omega, by omega⟩, n1]
  refine hx_bs ?_
  try rw [xf_8_0 hx]
  refine hx_bs ?_
  try rw [sm_aln k66 ⟨by omega, by omega⟩, n66]
  refine hx_bs ?_
  have e1 : (if nI 200 < nI 200 then nI 200 else nI 200) = nI 200 := by split <;> rfl
  try rw [e1, if_neg (by rw [sm_lt (by omega) (by omega)]; omega), sm_pI hx.k9]
  refine hx_bs ?_
  exact rd_21 hp hx hkw hQ hW hT hb hl FU 0 _ (by show t.length - 0 < 4294967296; omega) (by omega) (rX.wI rfl) sI_wI_eq (fun j b hj => absurd hj (Nat.not_lt_zero _))
