/-! ===== the reference reads a SUM ===== -/
theorem gon_of {t : List Nat} {i : Nat} (h : (tk t i).1 ≠ 0) (h3 : (tk t i).1 ≠ 3) : gon (tk t i) := ⟨h, h3⟩
theorem Yr.tx {m k0 : Nat} {t : List Nat} {σ σ' : St} (h : Yr m k0 σ σ') (hx : RTx σ m t) : RTx σ' m t := hx.keep h.1 (by decide) (by decide)
theorem Yr.pf {m k0 : Nat} {ps : List Nat} {σ σ' : St} (h : Yr m k0 σ σ') (hx : RPf σ m ps) : RPf σ' m ps := hx.keep h.1 (by decide) (by decide)
theorem Yr.fi {m k0 f : Nat} {v : Int32} {σ σ' : St} (h : Yr m k0 σ σ') (hx : Fi σ m f v) (hf : f ≠ 21 ∧ f ≠ 30 ∧ f ≠ 31) : Fi σ' m f v := hx.keep h.1 (by simp [hf.1, hf.2.1, hf.2.2])
theorem rw_187 {σ0 σ : St} {m vm k0 v0 n i p w : Nat} {t ps : List Nat} {S : List Wt} {L : List It} (hm : MS σ m) (hR : RY m k0 v0 σ0 σ) (hY : Yd σ m vm k0 S L) (hl : k0 + L.length + S.length + 1 ≤ 12000) (hp : p ≤ 200) (hw : w < 2147483648) (hps : ps.length ≤ 4)
    (hS : ∀ σ' S' L', Yd σ' m vm k0 S' L' → rfM m [21] [6, 7, 8, 9] nV σ σ' → S' = S → L' = L ++ [wdi ps w p] → SyR σ' m t ps vm k0 v0 n (true, S, L ++ [wdi ps w p], i + 1)) :
    Hx (fX12_readsOperand_187 σ (nI p) m (nI (wdi ps w p).1) (nI (wdi ps w p).2.1)) (fun σ' v => StP m t ps k0 v0 n σ0 σ' v i (.inl (true, S, L ++ [wdi ps w p], i + 1))) := by
  obtain ⟨⟨y1, y2, y3⟩, ⟨y4, y5, y6⟩, y7⟩ := hY
  have hwd : ((wdi ps w p).1 = 31 ∨ (wdi ps w p).1 = 32) ∧ (wdi ps w p).2.1 < 2147483648 ∧ (wdi ps w p).2.2.1 = 0 ∧ (wdi ps w p).2.2.2.1 = p := by
    unfold wdi
    cases e : fix ps w with
    | none => exact ⟨Or.inl rfl, hw, rfl, rfl⟩
    | some k =>
      have := fix_lt e
      exact ⟨Or.inr rfl, by show k < _; omega, rfl, rfl⟩
  obtain ⟨w1, w2, w3, w4⟩ := hwd
  rw [n_fX12_readsOperand_187, rf_ck hm]
  refine hx_bs ?_
  refine Hx.bd (ry_makes (it := wdi ps w p) hm y7 y6 (by omega) ⟨rfl, w3, w4⟩ ⟨by omega, w2, by omega, by omega⟩ (fun q => absurd q (by omega)) (fun _ => rfl)) (fun σ1 _ h => ?_)
  obtain ⟨r1, r2, r3, r4⟩ := h
  refine Hx.ret ⟨hR.tr ⟨r1.mo ⟨by decide, by decide⟩ (fun _ q => q.elim), r2⟩, rfl, by show i < i + 1; omega, vm, ?_⟩
  refine hS σ1 S _ ⟨⟨y1.keep r1 (by decide), y2, ?_⟩, ⟨y4.keep r1 (by decide), y5.keep r1 (by decide), r3⟩, r4⟩ r1 rfl rfl
  rw [List.length_append, List.length_singleton]
  omega
theorem ry_47 {σ : St} {m vm k0 v0 n i : Nat} {t ps : List Nat} {S : List Wt} {L : List It} (hn : Ntk t n) (hk0 : k0 + 205 ≤ 12000) (hs : SyR σ m t ps vm k0 v0 n (false, S, L, i)) (hk : (tk t i).1 = 45 ∨ (tk t i).1 = 40) : Hx (fX12_readsOperand_47 σ m) (fun σ' v => StP m t ps k0 v0 n σ σ' v i (syA t ps S L i)) := by
  obtain ⟨⟨hm, ht, hp, hT, h13, h5⟩, hY, b1, b2, b3, b4, b5⟩ := hs
  have b1 : i < n := b1
  have b2 : S.length + L.length ≤ i := b2
  have b3 : ∀ w ∈ S, w.2.2.2 ≤ i := b3
  have hY : Yd σ m vm k0 S L := hY
  have hT : TkN σ m t (tk t i) := hT
  have h13 : gon (tk t i) → Fi σ m 13 (nI (tkp t (i + 1))) := h13
  have hT0 := hT
  obtain ⟨t1, t2, t3, t4, t5, t6⟩ := hT
  have hl := ht.1.2
  have hnl := hn.le
  have hg : gon (tk t i) := ⟨by omega, by omega⟩
  have hi1 := hn.nx b1 hg
  have hpl := (tk_b (t := t) i).2.2.2.2.2.2
  have h12 := t4 (by show 3 < (tk t i).1; omega)
  have le := opn_le S
  have esy : syA t ps S L i = (if opn S = 12 then .inr (.inl i) else .inl (false, ((if (tk t i).1 = 45 then 8 else 40), (tk t i).2.2.1, none, 1) :: S, L, i + 1)) := by
    unfold syA
    rw [if_neg (show ¬ (tk t i).1 = 2 by omega), if_pos hk]
  have go : ∀ a, a = (if (tk t i).1 = 45 then 8 else 40) → opn S ≠ 12 → Hx (fX12_readsOperand_75 σ m m (nI a)) (fun σ' v => StP m t ps k0 v0 n σ σ' v i (syA t ps S L i)) := by
    intro a ha h12
    have hka : a = 8 ∨ a = 40 := by rw [ha]; split <;> omega
    rw [esy, if_neg h12, n_fX12_readsOperand_75, rf_ck hm]
    refine hx_bs ?_
    refine Hx.bd (ry_waitsFor (o := none) hm hY ⟨by omega, by omega⟩ t2 ⟨⟨by show 1 ≤ a; omega, by show a ≤ 8 ∨ a = 40; omega⟩, by show (tk t i).2.2.1 ≤ 200; omega, fun u hu => (by cases hu), by show 1 ≤ 200; omega⟩) (fun σ1 _ h => ?_)
    obtain ⟨q1, q2⟩ := h
    have hm1 := q1.1.ms hm
    rw [rf_ck hm1]
    refine hx_bs ?_
    have pr : PrS σ1 m t ps vm k0 v0 n ((a, (tk t i).2.2.1, none, 1) :: S) L i := by
      refine ⟨⟨hm1, q1.tx ht, q1.pf hp, q1.fi (h13 hg) (by omega), q1.fi h5 (by omega)⟩, q2, hi1, by rw [List.length_cons]; omega, fun w hw => ?_, b4, by have b5 : vm ≤ v0 + i := b5; omega⟩
      rcases List.mem_cons.mp hw with rfl | hw
      · show 1 ≤ i + 1; omega
      · have := b3 w hw; omega
    refine pr.go (b := false) q1.ry (fun σ2 g1 g2 => Hx.ret ⟨g1, rfl, by show i < i + 1; omega, vm, ?_⟩)
    rw [← ha]
    exact g2
  rw [n_fX12_readsOperand_47, fi_g hm hY.2.1.2.1]
  have y2 : S.length ≤ 205 := hY.1.2.1
  have k94 := (tk_b (t := t) i).2.2.2.2.1
  refine hx_bs (Hx.ce (sm_eq (by omega) (by omega)) (fun c => ?_) (fun c => ?_))
  · rw [esy, if_pos c]
    exact Hx.ret ⟨RY.rf, rfl, hm, hT0⟩
  · rw [fi_g hm h12]
    refine hx_bs (Hx.ce (sm_eq (by omega) (by omega)) (fun c2 => ?_) (fun c2 => ?_))
    · exact go 8 (by rw [if_pos c2]) c
    · exact go 40 (by rw [if_neg c2]) c
theorem ry_operand {σ : St} {m vm k0 v0 n i : Nat} {t ps : List Nat} {S : List Wt} {L : List It} (hn : Ntk t n) (hk0 : k0 + 205 ≤ 12000) (hv0 : v0 + 205 ≤ 12600) (hs : SyR σ m t ps vm k0 v0 n (false, S, L, i)) : Hx (fX12_readsOperand σ m) (fun σ' v => StP m t ps k0 v0 n σ σ' v i (syA t ps S L i)) := by
  have hs0 := hs
  obtain ⟨⟨hm, ht, hp, hT, h13, h5⟩, hY, b1, b2, b3, b4, b5⟩ := hs
  have b1 : i < n := b1
  have b2 : S.length + L.length ≤ i := b2
  have b3 : ∀ w ∈ S, w.2.2.2 ≤ i := b3
  have b5 : vm ≤ v0 + i := b5
  have hY : Yd σ m vm k0 S L := hY
  have hT : TkN σ m t (tk t i) := hT
  have h13 : gon (tk t i) → Fi σ m 13 (nI (tkp t (i + 1))) := h13
  have hT0 := hT
  obtain ⟨t1, t2, t3, t4, t5, t6⟩ := hT
  have t1 : Fi σ m 10 (nI (tkR (tk t i).1)) := t1
  have t2 : Fi σ m 11 (nI (tk t i).2.2.1) := t2
  have hl := ht.1.2
  have hnl := hn.le
  obtain ⟨_, _, _, hwd, hk94, hk3, hpl⟩ := tk_b (t := t) i
  rw [n_fX12_readsOperand, fi_g hm t1]
  refine hx_bs (Hx.ce tkR_2 (fun c => ?_) (fun c => ?_))
  · obtain ⟨n9, ne⟩ := tk_num c
    have hg : gon (tk t i) := ⟨by omega, by omega⟩
    have hi1 := hn.nx b1 hg
    have esy : syA t ps S L i = .inl (true, S, L ++ [(30, 0, 0, (tk t i).2.2.1, nmq t (tk t i).2.2.1)], i + 1) := by
      unfold syA
      rw [if_pos c]
    rw [esy, rf_ck hm]
    refine hx_bs ?_
    refine Hx.bd (rt_makesNumber hm ht n9 ne t2 (t6 c) h5 (by omega)) (fun σ1 v h => ?_)
    obtain ⟨r1, rfl, r3, r4⟩ := h
    have hm1 := r1.ms hm
    have r1' : RY m k0 v0 σ σ1 := ⟨r1.mo ⟨by decide, by decide⟩ (fun j q => by have q : j = vm := q; omega), Ol.of r1 (by decide)⟩
    have hv : ∀ j, 600 ≤ j → j < vm → ¬ j = vm := fun j _ h2 h3 => by omega
    have Y1 := hY.keep (vm := vm) r1 (by decide) (by decide) hv
    obtain ⟨⟨y1, y2, y3⟩, ⟨y4, y5, y6⟩, y7⟩ := Y1
    rw [fi_g hm1 (t2.keep r1 (by decide))]
    refine hx_bs ?_
    rw [rf_ck hm1]
    refine hx_bs ?_
    refine Hx.bd (ry_makes (vm := vm + 1) (it := (30, 0, 0, (tk t i).2.2.1, nmq t (tk t i).2.2.1)) hm1 (y7.up (by omega) (by omega)) y6 (by omega) ⟨rfl, rfl, rfl⟩ ⟨by omega, by show 0 < _; omega, by omega, by omega⟩ (fun _ => ⟨⟨by omega, by omega, by omega⟩, r4⟩) (fun q => absurd rfl q)) (fun σ2 _ h => ?_)
    obtain ⟨u1, u2, u3, u4⟩ := h
    have hm2 := u1.ms hm1
    have u1' : RY m k0 v0 σ1 σ2 := ⟨u1.mo ⟨by decide, by decide⟩ (fun _ q => q.elim), u2⟩
    rw [rf_ck hm2]
    refine hx_bs ?_
    have pr : PrS σ2 m t ps (vm + 1) k0 v0 n S (L ++ [(30, 0, 0, (tk t i).2.2.1, nmq t (tk t i).2.2.1)]) i := by
      refine ⟨⟨hm2, (ht.keep r1 (by decide) (by decide)).keep u1 (by decide) (by decide), (hp.keep r1 (by decide) (by decide)).keep u1 (by decide) (by decide), ((h13 hg).keep r1 (by decide)).keep u1 (by decide), r3.keep u1 (by decide)⟩, ⟨⟨y1.keep u1 (by decide), y2, ?_⟩, ⟨y4.keep u1 (by decide), y5.keep u1 (by decide), u3⟩, u4⟩, hi1, ?_, fun w hw => ?_, by omega, by omega⟩
      · rw [List.length_append, List.length_singleton]; omega
      · rw [List.length_append, List.length_singleton]; omega
      · have := b3 w hw; omega
    exact pr.go (b := true) (r1'.tr u1') (fun σ3 g1 g2 => Hx.ret ⟨g1, rfl, by show i < i + 1; omega, vm + 1, g2⟩)
  · rw [rf_ck hm]
    refine hx_bs ?_
    rw [rt_isNow hm hT0 hk94 (by omega) (by omega)]
    refine hx_cs ?_
    refine (Hx.ce nb0 (fun c45 => ?_) (fun c45 => ry_47 hn hk0 hs0 (Or.inl (Classical.not_not.mp c45))))
    rw [rf_ck hm]
    refine hx_bs ?_
    rw [rt_isNow hm hT0 hk94 (by omega) (by omega)]
    refine hx_cs ?_
    refine (Hx.ce nb0 (fun c40 => ?_) (fun c40 => ry_47 hn hk0 hs0 (Or.inr (Classical.not_not.mp c40))))
    rw [fi_g hm t1]
    refine hx_bs (Hx.ce (tkR_3 hk94) (fun c1 => ?_) (fun c1 => ?_))
    · have hg : gon (tk t i) := ⟨by omega, by omega⟩
      have hi1 := hn.nx b1 hg
      have h12 : Fi σ m 12 (nI (tk t i).2.1) := t3 c1
      have hw := hwd c1
      have hw31 : (tk t i).2.1 < 2147483648 := by unfold wd at hw; omega
      rw [fi_g hm h12]
      refine hx_bs ?_
      rw [fi_g hm t2]
      refine hx_bs ?_
      rw [rf_ck hm]
      refine hx_bs ?_
      have pr : PrS σ m t ps vm k0 v0 n S L i := ⟨⟨hm, ht, hp, h13 hg, h5⟩, hY, hi1, by omega, fun w hw => by have := b3 w hw; omega, b4, by omega⟩
      refine pr.go (b := false) RY.rf (fun σ1 g1 g2 => ?_)
      obtain ⟨⟨m1, x1, p1, T1, a1, f1⟩, Y1, d1, d2, d3, d4, d5⟩ := g2
      have Y1 : Yd σ1 m vm k0 S L := Y1
      have T1 : TkN σ1 m t (tk t (i + 1)) := T1
      have a1 : gon (tk t (i + 1)) → Fi σ1 m 13 (nI (tkp t (i + 1 + 1))) := a1
      have k94 := (tk_b (t := t) (i + 1)).2.2.2.2.1
      have pl1 := (tk_b (t := t) (i + 1)).2.2.2.2.2.2
      rw [rf_ck m1]
      refine hx_bs ?_
      rw [rt_isNow m1 T1 k94 (by omega) (by omega)]
      refine hx_cs (Hx.ce nb0 (fun c2 => ?_) (fun c2 => ?_))
      · have c2' : (tk t (i + 1)).1 ≠ 40 := c2
        have esy : syA t ps S L i = .inl (true, S, L ++ [wdi ps (tk t i).2.1 (tk t i).2.2.1], i + 1) := by
          unfold syA
          rw [if_neg c, if_neg (by omega), if_neg (show ¬ (tk t i).1 ≠ 1 from fun q => q c1), if_pos c2']
        rw [esy]
        have key := rw_187 (t := t) (ps := ps) (n := n) (i := i) (w := (tk t i).2.1) m1 g1 Y1 (by omega) (show (tk t i).2.2.1 ≤ 200 by omega) hw31 hp.1.2 (v0 := v0) (fun σ' S' L' q1 q2 e1 e2 => ?_)
        · refine ry_123 m1 p1 hw31 key FU 0 (by have := hp.1.2; unfold FU; omega) (by omega) |> fun q => ?_
          have e0 : fxl ps (tk t i).2.1 0 = iz (-1) := by
            unfold fxl
            cases fix ps (tk t i).2.1 with
            | none => rfl
            | some k => exact if_neg (by omega)
          rw [e0] at q
          exact q
        · subst e1; subst e2
          refine ⟨⟨q2.ms m1, x1.keep q2 (by decide) (by decide), p1.keep q2 (by decide) (by decide), ?_, fun q => (a1 q).keep q2 (by decide), f1.keep q2 (by decide)⟩, q1, d1, ?_, d3, d4, d5⟩
          · obtain ⟨z1, z2, z3, z4, z5, z6⟩ := T1
            exact ⟨z1.keep q2 (by decide), z2.keep q2 (by decide), fun q => (z3 q).keep q2 (by decide), fun q => (z4 q).keep q2 (by decide), fun q => (z5 q).keep q2 (by decide), fun q => by
              obtain ⟨o1, o2, o3⟩ := z6 q
              exact ⟨o1.keep q2 (by decide), o2.keep q2 (by decide), o3.keep q2 (by decide)⟩⟩
          · show S'.length + (L ++ [_]).length ≤ i + 1
            rw [List.length_append, List.length_singleton]; omega
      · have c2 : (tk t (i + 1)).1 = 40 := Classical.not_not.mp c2
        have hg1 : gon (tk t (i + 1)) := ⟨by omega, by omega⟩
        have hi2 := hn.nx hi1 hg1
        have y2 : S.length ≤ 205 := Y1.1.2.1
        have le := opn_le S
        have esy : syA t ps S L i = if opn S = 12 then .inr (.inl (i + 1)) else .inl (false, (40, (tk t i).2.2.1, some (tk t i).2.1, 1) :: S, L, i + 2) := by
          unfold syA
          rw [if_neg c, if_neg (by omega), if_neg (show ¬ (tk t i).1 ≠ 1 from fun q => q c1), if_neg (fun q => q c2)]
        have y31 : Fi σ1 m 31 (nI (opn S)) := Y1.2.1.2.1
        rw [esy, fi_g m1 y31]
        refine hx_bs (Hx.ce (sm_eq (by omega) (by omega)) (fun c3 => ?_) (fun c3 => ?_))
        · rw [if_pos c3]
          exact Hx.ret ⟨g1, rfl, m1, T1⟩
        · rw [if_neg c3, rf_ck m1]
          refine hx_bs ?_
          refine Hx.bd (ry_waitsFor (o := some (tk t i).2.1) m1 Y1 ⟨by omega, by omega⟩ (p := (tk t (i + 1)).2.2.1) T1.2.1 ⟨⟨by show 1 ≤ 40; omega, Or.inr rfl⟩, by show (tk t (i + 1)).2.2.1 ≤ 200; omega, fun u hu => by cases hu; exact hw31, by show 1 ≤ 200; omega⟩) (fun σ2 _ h => ?_)
          obtain ⟨q1, q2⟩ := h
          have hm2 := q1.1.ms m1
          obtain ⟨⟨⟨⟨e1, e2, e3, e4⟩, ek, y1⟩, y2', y3⟩, ⟨y4, y5, y6⟩, y7⟩ := q2
          have e1 : sA σ2 (m + 13) S.length = nI 40 := e1
          have e3 : sA σ2 (m + 15) S.length = wwn (some (tk t i).2.1) := e3
          have e4 : sA σ2 (m + 16) S.length = nI 1 := e4
          rw [List.length_cons] at y2' y3 y4
          rw [rf_waitsAt hm2]
          refine hx_bs ?_
          rw [fi_g hm2 y4]
          refine hx_bs ?_
          rw [sm_sub (by omega), Nat.add_sub_cancel, st_waitsAt hm2 (by omega)]
          refine hx_bs ?_
          have r3 : rfM m [] [14] nV σ2 (wA σ2 (m + 14) S.length (nI (tk t i).2.2.1)) := rfM.wA (by simp) (by omega)
          have hm3 := r3.ms hm2
          rw [rf_ck hm3]
          refine hx_bs ?_
          have r3' : Yr m k0 σ2 (wA σ2 (m + 14) S.length (nI (tk t i).2.2.1)) := ⟨r3.mo ⟨fun _ q => (by cases q), by decide⟩ (fun _ q => q), Ol.of r3 (by decide)⟩
          have q3 := q1.tr r3'
          have pr3 : PrS (wA σ2 (m + 14) S.length (nI (tk t i).2.2.1)) m t ps vm k0 v0 n ((40, (tk t i).2.2.1, some (tk t i).2.1, 1) :: S) L (i + 1) := by
            refine ⟨⟨hm3, q3.tx x1, q3.pf p1, q3.fi (a1 hg1) (by omega), q3.fi f1 (by omega)⟩, ⟨⟨⟨⟨?_, sA_wA_eq, ?_, ?_⟩, ⟨⟨by show 1 ≤ 40; omega, Or.inr rfl⟩, by show (tk t i).2.2.1 ≤ 200; omega, fun u hu => by cases hu; exact hw31, by show 1 ≤ 200; omega⟩, y1.co (fun j hj a _ _ => sA_wA_j (by omega))⟩, by rw [List.length_cons]; exact y2', by rw [List.length_cons]; exact y3⟩, ⟨by rw [List.length_cons]; exact y4, y5, y6⟩, y7.keepM r3 (by decide) (fun _ _ _ q => q)⟩, hi2, by rw [List.length_cons]; omega, fun w hw => ?_, d4, by have d5 : vm ≤ v0 + (i + 1) := d5; omega⟩
            · rw [sA_wA_b (by omega)]; exact e1
            · rw [sA_wA_b (by omega)]; exact e3
            · rw [sA_wA_b (by omega)]; exact e4
            · rcases List.mem_cons.mp hw with rfl | hw
              · show 1 ≤ i + 1 + 1; omega
              · have := b3 w hw; omega
          exact pr3.go (b := false) (g1.tr q3.ry) (fun σ3 g3 g4 => Hx.ret ⟨g3, rfl, by show i < i + 2; omega, vm, g4⟩)
    · have esy : syA t ps S L i = .inr (.inl i) := by
        unfold syA
        rw [if_neg c, if_neg (by omega), if_pos c1]
      rw [esy]
      exact Hx.ret ⟨RY.rf, rfl, hm, hT0⟩
