/-! ===== the law: rows ===== -/
section
variable {x b L i c9 w9 : Nat} {xs : Nat → Int32} {s s' : Kst} {c c' : Rct} {h h' : As × List As × List As} {σ σ' : St} {k23 : St → Nat → Nat → Nat → Nat → Int32 → Prop}
theorem one_end {K C kk : Nat} {val : Int} {exc : Option String} {fc : Option (St × (String ⊕ Int32))} {fr : St → Int32 → Option (St × Int32)} {hd : St → String → Option (St × Int32)} (hn : Nx x b L xs i k23) (hL : Lo x b L xs i s c h σ) (h1 : Hx fc (KO x K C s' exc val σ)) (h2 : ∀ σ1, RI σ1 (x + 98) c (rst s h) → ∃ val', (kk = 0 → val = val') ∧ Hx (fr σ1 (xs (6 * i + 1))) (RO (x + 98) c (rst s h) kk val' (rst s' h') σ1)) (h3 : ∀ e, exc = some e → 0 < kk ∧ ∀ τ, hd τ e = some (τ, nI kk)) (h4 : exc = none → kk = 0) (h5 : s'.1 = s.1) (h6 : Hg s' h') (h7 : kk < 10) (hK : K + 6 ≤ 2500 ∧ C + 1 ≤ 700) : exW (Option.bind (ckK σ 16 x) fun _ => cb fc fun σ1 q => match q with
  | .inl E => hd σ1 E
  | .inr v => Option.bind (stJ σ1 (x + 143) 0 (Int32.toInt64 v)) fun σ2 => some (σ2, 0)) fun σ2 v3 => exB (ldI σ2 b (nI (6 * i) + nI 1)) fun v5 => exB (ckK σ2 17 (x + 98)) fun _ => exC (fr σ2 v5) fun σ6 v7 => exB (ckK σ6 17 (x + 98)) fun _ => exC (fX12_thrown σ6 (x + 98)) fun σ9 v10 => if v10 = v3 then (if v3 = 0 then (exB (ldJ σ9 (x + 143) 0) fun v14 => if (lg_cmp v14 (Int32.toInt64 v7)) = 0 then pL_law_2380 c9 w9 k23 σ9 b x (x + 98) (x + 143) (nI (6 * i)) else False) else pL_law_2380 c9 w9 k23 σ9 b x (x + 98) (x + 143) (nI (6 * i))) else False := by
  refine lw_w (t' := s.1.length) hL.1 h1 h3 h4 (by omega) (by omega) (fun σ2 hM hj => ?_)
  refine lw_a (j := 1) hM hL.2.2.2.2 (by omega) (lw_17 hM ?_)
  obtain ⟨val', hv, h2⟩ := h2 σ2 hM.2.1
  exact lw_r hM hj h2 hv h7 (fun σ4 c' hM4 hB => nx_of (h' := h') hn hL hM4 hB rfl (by rw [h5]) h6)
theorem two_end {K C kk : Nat} {val : Int} {exc : Option String} {fc : Option (St × (String ⊕ Int32))} {fr : St → Int32 → Int32 → Option (St × Int32)} {hd : St → String → Option (St × Int32)} (hn : Nx x b L xs i k23) (hL : Lo x b L xs i s c h σ) (h1 : Hx fc (KO x K C s' exc val σ)) (h2 : ∀ σ1, RI σ1 (x + 98) c (rst s h) → ∃ val', (kk = 0 → val = val') ∧ Hx (fr σ1 (xs (6 * i + 1)) (xs (6 * i + 2))) (RO (x + 98) c (rst s h) kk val' (rst s' h') σ1)) (h3 : ∀ e, exc = some e → 0 < kk ∧ ∀ τ, hd τ e = some (τ, nI kk)) (h4 : exc = none → kk = 0) (h5 : s'.1 = s.1) (h6 : Hg s' h') (h7 : kk < 10) (hK : K + 6 ≤ 2500 ∧ C + 1 ≤ 700) : exW (Option.bind (ckK σ 16 x) fun _ => cb fc fun σ1 q => match q with
  | .inl E => hd σ1 E
  | .inr v => Option.bind (stJ σ1 (x + 143) 0 (Int32.toInt64 v)) fun σ2 => some (σ2, 0)) fun σ2 v3 => exB (ldI σ2 b (nI (6 * i) + nI 1)) fun v5 => exB (ldI σ2 b (nI (6 * i) + nI 2)) fun v6 => exB (ckK σ2 17 (x + 98)) fun _ => exC (fr σ2 v5 v6) fun σ6 v7 => exB (ckK σ6 17 (x + 98)) fun _ => exC (fX12_thrown σ6 (x + 98)) fun σ9 v10 => if v10 = v3 then (if v3 = 0 then (exB (ldJ σ9 (x + 143) 0) fun v14 => if (lg_cmp v14 (Int32.toInt64 v7)) = 0 then pL_law_2380 c9 w9 k23 σ9 b x (x + 98) (x + 143) (nI (6 * i)) else False) else pL_law_2380 c9 w9 k23 σ9 b x (x + 98) (x + 143) (nI (6 * i))) else False := by
  refine lw_w (t' := s.1.length) hL.1 h1 h3 h4 (by omega) (by omega) (fun σ2 hM hj => ?_)
  refine lw_a (j := 1) hM hL.2.2.2.2 (by omega) (lw_a (j := 2) hM hL.2.2.2.2 (by omega) (lw_17 hM ?_))
  obtain ⟨val', hv, h2⟩ := h2 σ2 hM.2.1
  exact lw_r hM hj h2 hv h7 (fun σ4 c' hM4 hB => nx_of (h' := h') hn hL hM4 hB rfl (by rw [h5]) h6)
theorem Lo.aok (hL : Lo x b L xs i s c h σ) : qok s.2.2.2.1 := by
  obtain ⟨vi, _, hv⟩ := hL.1.2.1.2.1.1
  exact hv.2.1
theorem row_of {A : As} (hG : Good A) (hT : Bti A h.1) {r : Nat} (hr : r < 3) : ∃ vs, A.2.2[r]? = some vs ∧ rowZ (rst s h) (r : Int) = vs ∧ vs.length ≤ 50 ∧ Rwo vs := by
  obtain ⟨vs, hvs⟩ := get_some (l := A.2.2) (i := r) (by have := hG.2.1; omega)
  obtain ⟨g1, g2, g3⟩ := hG.2.2 vs (List.mem_of_getElem? hvs)
  refine ⟨vs, hvs, rowZ_of ?_, g1, g2, g3⟩
  show h.1.2.2[r]? = some vs
  rw [hT.2.1]
  exact hvs
theorem good_row {A : As} (hG : Good A) {r : Nat} {vs : List Qv} (h1 : vs.length ≤ 50) (h2 : Rwo vs) : Good (A.1, A.2.1, A.2.2.set r vs) := by
  obtain ⟨g1, g2, g3⟩ := hG
  refine ⟨g1, by show (A.2.2.set r vs).length = 3; rw [List.length_set]; exact g2, fun ws hw => ?_⟩
  rcases List.mem_or_eq_of_mem_set hw with q | q
  · exact g3 ws q
  · subst q; exact ⟨h1, h2.1, h2.2⟩
theorem bti_row {A B : As} (hT : Bti A B) (r : Nat) (vs : List Qv) : Bti (A.1, A.2.1, A.2.2.set r vs) (B.1, B.2.1, B.2.2.set r vs) := ⟨hT.1, by show B.2.2.set r vs = A.2.2.set r vs; rw [hT.2.1], hT.2.2⟩
theorem rz_of {z : Int} (cz : 0 ≤ z ∧ z ≤ 2) : ∃ r : Nat, r < 3 ∧ z = (r : Int) ∧ iz z = nI r := ⟨z.toNat, by omega, by omega, by rw [sm_iz]; congr 1; omega⟩
theorem hd_1 {e1 : String} {f : St → String → Option (St × Int32)} (hf : ∀ τ, f τ e1 = some (τ, nI 1)) : ∀ e, some e1 = some e → 0 < 1 ∧ ∀ τ, f τ e = some (τ, nI 1) := by
  intro e he
  cases he
  exact ⟨by omega, hf⟩
theorem hd_s {e1 : String} {k : Nat} {f : St → String → Option (St × Int32)} (hk : 0 < k) (hf : ∀ τ, f τ e1 = some (τ, nI k)) : ∀ e, some e1 = some e → 0 < k ∧ ∀ τ, f τ e = some (τ, nI k) := by
  intro e he
  cases he
  exact ⟨hk, hf⟩
theorem hd_n {k : Nat} {f : St → String → Option (St × Int32)} : ∀ e, none = some e → 0 < k ∧ ∀ τ, f τ e = some (τ, nI k) := by
  intro e he
  cases he
theorem br_1813 (hn : Nx x b L xs i k23) (hL : Lo x b L xs i s c h σ) : pL_law_1813 c9 w9 k23 σ b x (x + 98) (x + 143) (nI (6 * i)) := by
  obtain ⟨o, k⟩ := hL.ki
  obtain ⟨A, hA, hG, hT⟩ := hL.now
  have hq := hL.aok
  refine lw_a (j := 1) hL.1 hL.2.2.2.2 (by omega) ?_
  generalize hv : xs (6 * i + 1) = v
  revert hv
  refine int_all (P := fun v => xs (6 * i + 1) = v → exW (fL_put σ x v (x + 143)) _) (v := v) (fun z hz hv => ?_)
  unfold fL_put
  by_cases cz : 0 ≤ z ∧ z ≤ 2
  · obtain ⟨r, hr, rfl, er⟩ := rz_of cz
    obtain ⟨vs, hvs, hrow, h50, hR⟩ := row_of (s := s) hG hT hr
    have e1 : nlt (rst s h).2.2.2.1 vs = cbl s.2.2.2.1 vs := cbl_nlt hq hR
    have hc := ki_put k hA hr hvs
    rw [er] at hv ⊢
    by_cases c50 : vs.length < 50
    · rw [if_pos c50, if_pos c50] at hc
      have hl : (plL vs (cbl s.2.2.2.1 vs) 1 s.2.2.2.1).length ≤ 50 := by rw [plL_len (cbl_le _ _) (Or.inl rfl)]; omega
      refine one_end (fr := fun σ v => fX12_put σ (x + 98) v) (kk := 0) (h' := ((h.1.1, h.1.2.1, h.1.2.2.set r (plL vs (cbl s.2.2.2.1 vs) 1 s.2.2.2.1)), upU h.1 h.2.1, [])) hn hL hc (fun σ1 hR1 => ?_) hd_n (fun _ => rfl) rfl (hg_new hL.2.1 (good_row hG hl (hR.put hq)) (bti_row hT r _) rfl rfl) (by omega) (by omega)
      have g := ri_put hz hR1
      rw [hrow, if_pos cz, if_pos c50, if_pos ⟨cz.1, cz.2, c50⟩, e1] at g
      rw [hv, ← er]
      exact ⟨_, fun y => rfl, g⟩
    · rw [if_neg c50, if_neg c50] at hc
      refine one_end (fr := fun σ v => fX12_put σ (x + 98) v) (kk := 2) (h' := h) (hd := fun τ E => (if E = "java/lang/IllegalArgumentException" then some (τ, 1) else (if E = "java/lang/IllegalStateException" then some (τ, 2) else none))) hn hL hc (fun σ1 hR1 => ?_) (hd_s (by omega) (fun τ => hd_2 (by decide) (Or.inr ⟨rfl, rfl⟩) τ)) (fun z => by cases z) rfl hL.2.1 (by omega) (by omega)
      have g := ri_put hz hR1
      rw [hrow, if_pos cz, if_neg c50, if_neg (fun y => c50 y.2.2)] at g
      rw [hv, ← er]
      exact ⟨_, fun y => by omega, g⟩
  · refine one_end (fr := fun σ v => fX12_put σ (x + 98) v) (kk := 1) (h' := h) (hd := fun τ E => (if E = "java/lang/IllegalArgumentException" then some (τ, 1) else (if E = "java/lang/IllegalStateException" then some (τ, 2) else none))) hn hL (ki_noRow hz k hA cz 0).1 (fun σ1 hR1 => ?_) (hd_s (by omega) (fun τ => if_pos rfl)) (fun z => by cases z) rfl hL.2.1 (by omega) (by omega)
    have g := ri_put hz hR1
    rw [if_neg cz, if_neg (fun y => cz ⟨y.1, y.2.1⟩)] at g
    rw [hv]
    exact ⟨_, fun y => by omega, g⟩
theorem br_1869 (hn : Nx x b L xs i k23) (hL : Lo x b L xs i s c h σ) : pL_law_1869 c9 w9 k23 σ b x (x + 98) (x + 143) (nI (6 * i)) := by
  obtain ⟨o, k⟩ := hL.ki
  obtain ⟨A, hA, hG, hT⟩ := hL.now
  have hq := hL.aok
  refine lw_a (j := 1) hL.1 hL.2.2.2.2 (by omega) ?_
  generalize hv : xs (6 * i + 1) = v
  revert hv
  refine int_all (P := fun v => xs (6 * i + 1) = v → exW (fL_out σ x v (x + 143)) _) (v := v) (fun z hz hv => ?_)
  unfold fL_out
  by_cases cz : 0 ≤ z ∧ z ≤ 2
  · obtain ⟨r, hr, rfl, er⟩ := rz_of cz
    obtain ⟨vs, hvs, hrow, h50, hR⟩ := row_of (s := s) hG hT hr
    have e1 : nlt (rst s h).2.2.2.1 vs = cbl s.2.2.2.1 vs := cbl_nlt hq hR
    have e2 : neq (rst s h).2.2.2.1 vs = csm s.2.2.2.1 (vs.drop (cbl s.2.2.2.1 vs)) := csm_neq hq hR
    have hc := ki_out k hA hr hvs
    rw [er] at hv ⊢
    have hlt : 0 < neq (rst s h).2.2.2.1 (rowZ (rst s h) (r : Int)) → nlt (rst s h).2.2.2.1 (rowZ (rst s h) (r : Int)) < (rowZ (rst s h) (r : Int)).length := by
      rw [hrow, e1, e2]
      intro z
      have := csm_le s.2.2.2.1 (vs.drop (cbl s.2.2.2.1 vs))
      rw [List.length_drop] at this
      omega
    by_cases c0 : csm s.2.2.2.1 (vs.drop (cbl s.2.2.2.1 vs)) = 0
    · rw [if_pos c0, if_pos c0] at hc
      refine one_end (fr := fun σ v => fX12_out σ (x + 98) v) (kk := 2) (h' := h) (hd := fun τ E => (if E = "java/lang/IllegalArgumentException" then some (τ, 1) else (if E = "java/util/NoSuchElementException" then some (τ, 2) else none))) hn hL hc (fun σ1 hR1 => ?_) (hd_s (by omega) (fun τ => hd_2 (by decide) (Or.inr ⟨rfl, rfl⟩) τ)) (fun z => by cases z) rfl hL.2.1 (by omega) (by omega)
      have g := ri_out hz hR1 hlt
      rw [hrow, e2, if_pos cz, if_neg (by omega), if_neg (fun y => by have := y.2.2; omega)] at g
      rw [hv, ← er]
      exact ⟨_, fun y => by omega, g⟩
    · rw [if_neg c0, if_neg c0] at hc
      have hl : (vs.eraseIdx (cbl s.2.2.2.1 vs)).length ≤ 50 := Nat.le_trans (List.eraseIdx_sublist _ _).length_le h50
      refine one_end (fr := fun σ v => fX12_out σ (x + 98) v) (kk := 0) (h' := ((h.1.1, h.1.2.1, h.1.2.2.set r (vs.eraseIdx (cbl s.2.2.2.1 vs))), upU h.1 h.2.1, [])) hn hL hc (fun σ1 hR1 => ?_) hd_n (fun _ => rfl) rfl (hg_new hL.2.1 (good_row hG hl (hR.er _)) (bti_row hT r _) rfl rfl) (by omega) (by omega)
      have g := ri_out hz hR1 hlt
      rw [hrow, e2, e1, if_pos cz, if_pos (by omega), if_pos ⟨cz.1, cz.2, by omega⟩] at g
      rw [hv, ← er]
      exact ⟨_, fun y => rfl, g⟩
  · refine one_end (fr := fun σ v => fX12_out σ (x + 98) v) (kk := 1) (h' := h) (hd := fun τ E => (if E = "java/lang/IllegalArgumentException" then some (τ, 1) else (if E = "java/util/NoSuchElementException" then some (τ, 2) else none))) hn hL (ki_noRow hz k hA cz 0).2.1 (fun σ1 hR1 => ?_) (hd_s (by omega) (fun τ => if_pos rfl)) (fun z => by cases z) rfl hL.2.1 (by omega) (by omega)
    have e0 : (rst s h).2.2.2.2.2.2.2.1.2.2.length = 3 := by
      show h.1.2.2.length = 3
      rw [hT.2.1]
      exact hG.2.1
    have hlt : 0 < neq (rst s h).2.2.2.1 (rowZ (rst s h) z) → nlt (rst s h).2.2.2.1 (rowZ (rst s h) z) < (rowZ (rst s h) z).length := by
      by_cases c3 : z.toNat < 3
      · obtain ⟨vs, hvs, hrow, h50, hR⟩ := row_of (s := s) hG hT c3
        have e3 : rowZ (rst s h) z = vs := by
          rw [← hrow]
          rfl
        have e1 : nlt (rst s h).2.2.2.1 vs = cbl s.2.2.2.1 vs := cbl_nlt hq hR
        have e2 : neq (rst s h).2.2.2.1 vs = csm s.2.2.2.1 (vs.drop (cbl s.2.2.2.1 vs)) := csm_neq hq hR
        rw [e3, e1, e2]
        intro y
        have := csm_le s.2.2.2.1 (vs.drop (cbl s.2.2.2.1 vs))
        rw [List.length_drop] at this
        omega
      · have e3 : rowZ (rst s h) z = [] := by
          unfold rowZ
          rw [List.getElem?_eq_none (by omega)]
          rfl
        rw [e3]
        exact fun y => absurd y (Nat.lt_irrefl 0)
    have g := ri_out hz hR1 hlt
    rw [if_neg cz, if_neg (fun y => cz ⟨y.1, y.2.1⟩)] at g
    rw [hv]
    exact ⟨_, fun y => by omega, g⟩
theorem br_1925 (hn : Nx x b L xs i k23) (hL : Lo x b L xs i s c h σ) : pL_law_1925 c9 w9 k23 σ b x (x + 98) (x + 143) (nI (6 * i)) := by
  obtain ⟨o, k⟩ := hL.ki
  obtain ⟨A, hA, hG, hT⟩ := hL.now
  refine lw_a (j := 1) hL.1 hL.2.2.2.2 (by omega) ?_
  generalize hv : xs (6 * i + 1) = v
  revert hv
  refine int_all (P := fun v => xs (6 * i + 1) = v → exW (fL_empty σ x v (x + 143)) _) (v := v) (fun z hz hv => ?_)
  unfold fL_empty
  by_cases cz : 0 ≤ z ∧ z ≤ 2
  · obtain ⟨r, hr, rfl, er⟩ := rz_of cz
    obtain ⟨vs, hvs, hrow, h50, hR⟩ := row_of (s := s) hG hT hr
    have hc := ki_empty k hA hr hvs
    rw [er] at hv ⊢
    refine one_end (fr := fun σ v => fX12_empty σ (x + 98) v) (kk := 0) (h' := ((h.1.1, h.1.2.1, h.1.2.2.set r []), upU h.1 h.2.1, [])) hn hL hc (fun σ1 hR1 => ?_) hd_n (fun _ => rfl) rfl (hg_new hL.2.1 (good_row hG (Nat.zero_le _) ⟨fun q hq => (by cases hq), List.Pairwise.nil⟩) (bti_row hT r _) rfl rfl) (by omega) (by omega)
    have g := ri_empty hz hR1
    rw [hrow, if_pos cz, if_pos cz] at g
    rw [hv, ← er]
    exact ⟨_, fun y => rfl, g⟩
  · refine one_end (fr := fun σ v => fX12_empty σ (x + 98) v) (kk := 1) (h' := h) (hd := fun τ E => (if E = "java/lang/IllegalArgumentException" then some (τ, 1) else none)) hn hL (ki_noRow hz k hA cz 0).2.2.1 (fun σ1 hR1 => ?_) (hd_s (by omega) (fun τ => if_pos rfl)) (fun z => by cases z) rfl hL.2.1 (by omega) (by omega)
    have g := ri_empty hz hR1
    rw [if_neg cz, if_neg cz] at g
    rw [hv]
    exact ⟨_, fun y => by omega, g⟩
theorem br_2133 (hn : Nx x b L xs i k23) (hL : Lo x b L xs i s c h σ) : pL_law_2133 c9 w9 k23 σ b x (x + 98) (x + 143) (nI (6 * i)) := by
  obtain ⟨o, k⟩ := hL.ki
  obtain ⟨A, hA, hG, hT⟩ := hL.now
  have hq := hL.aok
  have hb := hL.bds
  refine lw_a (j := 1) hL.1 hL.2.2.2.2 (by omega) ?_
  generalize hv : xs (6 * i + 1) = v
  revert hv
  refine int_all (P := fun v => xs (6 * i + 1) = v → exW (fL_takeNext σ x v (x + 143)) _) (v := v) (fun z hz hv => ?_)
  unfold fL_takeNext
  by_cases cz : 0 ≤ z ∧ z ≤ 2
  · obtain ⟨r, hr, rfl, er⟩ := rz_of cz
    obtain ⟨vs, hvs, hrow, h50, hR⟩ := row_of (s := s) hG hT hr
    have e1 : nlt (rst s h).2.2.2.1 vs = cbl s.2.2.2.1 vs := cbl_nlt hq hR
    have e2 : neq (rst s h).2.2.2.1 vs = csm s.2.2.2.1 (vs.drop (cbl s.2.2.2.1 vs)) := csm_neq hq hR
    have hc := ki_takeNext k hA hr hvs
    rw [er] at hv ⊢
    cases hu : vs[cbl s.2.2.2.1 vs + csm s.2.2.2.1 (vs.drop (cbl s.2.2.2.1 vs))]? with
    | none =>
      rw [hu] at hc
      have hge : ¬ cbl s.2.2.2.1 vs + csm s.2.2.2.1 (vs.drop (cbl s.2.2.2.1 vs)) < vs.length := fun y => by
        rw [List.getElem?_eq_getElem y] at hu; cases hu
      refine one_end (fr := fun σ v => fX12_takeNext σ (x + 98) v) (kk := 2) (h' := h) (hd := fun τ E => (if E = "java/lang/IllegalArgumentException" then some (τ, 1) else (if E = "java/util/NoSuchElementException" then some (τ, 2) else none))) hn hL hc (fun σ1 hR1 => ?_) (hd_s (by omega) (fun τ => hd_2 (by decide) (Or.inr ⟨rfl, rfl⟩) τ)) (fun z => by cases z) rfl hL.2.1 (by omega) (by omega)
      have g := ri_takeNext hz (show c.1 < 12600 by omega) hR1
      rw [hrow, e1, e2, if_pos cz, if_neg hge, if_neg (fun y => hge y.2.2)] at g
      rw [hv, ← er]
      exact ⟨_, fun y => by omega, g⟩
    | some q =>
      rw [hu] at hc
      have hge := (List.getElem?_eq_some_iff.mp hu).1
      refine one_end (fr := fun σ v => fX12_takeNext σ (x + 98) v) (kk := 0) (h' := h) hn hL hc (fun σ1 hR1 => ?_) hd_n (fun _ => rfl) rfl hL.2.1 (by omega) (by omega)
      have g := ri_takeNext hz (show c.1 < 12600 by omega) hR1
      rw [hrow, e1, e2, if_pos cz, if_pos hge, if_pos ⟨cz.1, cz.2, hge⟩, atQ_of hu, neq_at hR hq hu] at g
      rw [hv, ← er]
      exact ⟨_, fun y => rfl, g⟩
  · refine one_end (fr := fun σ v => fX12_takeNext σ (x + 98) v) (kk := 1) (h' := h) (hd := fun τ E => (if E = "java/lang/IllegalArgumentException" then some (τ, 1) else (if E = "java/util/NoSuchElementException" then some (τ, 2) else none))) hn hL (ki_noRow hz k hA cz 0).2.2.2.2.2 (fun σ1 hR1 => ?_) (hd_s (by omega) (fun τ => if_pos rfl)) (fun z => by cases z) rfl hL.2.1 (by omega) (by omega)
    have g := ri_takeNext hz (show c.1 < 12600 by omega) hR1
    rw [if_neg cz, if_neg (fun y => cz ⟨y.1, y.2.1⟩)] at g
    rw [hv]
    exact ⟨_, fun y => by omega, g⟩
end
