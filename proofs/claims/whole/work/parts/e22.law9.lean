/-! ===== the law: count, takeLeast, takeAll, takeUnit ===== -/
section
variable {x b L i c9 w9 : Nat} {xs : Nat → Int32} {s s' : Kst} {c c' : Rct} {h h' : As × List As × List As} {σ σ' : St} {k23 : St → Nat → Nat → Nat → Nat → Int32 → Prop}
theorem br_1981 (hn : Nx x b L xs i k23) (hL : Lo x b L xs i s c h σ) : pL_law_1981 c9 w9 k23 σ b x (x + 98) (x + 143) (nI (6 * i)) := by
  obtain ⟨o, k⟩ := hL.ki
  obtain ⟨A, hA, hG, hT⟩ := hL.now
  have hq := hL.aok
  obtain ⟨f, hf, hv2⟩ := fl_of (xs (6 * i + 2))
  refine lw_a (j := 1) hL.1 hL.2.2.2.2 (by omega) (lw_a (j := 2) hL.1 hL.2.2.2.2 (by omega) (fl_if hv2 (P := fun v => pL_law_2002 c9 w9 k23 σ b x (x + 98) (x + 143) (nI (6 * i)) x (xs (6 * i + 1)) v) ?_))
  generalize hv : xs (6 * i + 1) = v
  revert hv
  refine int_all (P := fun v => xs (6 * i + 1) = v → exW (fL_count σ x v (nI f) (x + 143)) _) (v := v) (fun z hz hv => ?_)
  unfold fL_count
  have hh : ∃ (exc : Option String) (kk : Nat) (val : Int), Hx (fX11_count σ x (iz z) (nI f)) (KO x 0 0 s exc val σ) ∧ (∀ σ1, RI σ1 (x + 98) c (rst s h) → Hx (fX12_count σ1 (x + 98) (iz z) (nI f)) (RO (x + 98) c (rst s h) kk val (rst s h) σ1)) ∧ (∀ e, exc = some e → e = "java/lang/IllegalArgumentException" ∧ kk = 1) ∧ (exc = none → kk = 0) ∧ kk < 10 := by
    by_cases cz : 0 ≤ z ∧ z ≤ 2
    · obtain ⟨r, hr, rfl, er⟩ := rz_of cz
      obtain ⟨vs, hvs, hrow, h50, hR⟩ := row_of (s := s) hG hT hr
      have e1 : nlt (rst s h).2.2.2.1 vs = cbl s.2.2.2.1 vs := cbl_nlt hq hR
      have e2 : neq (rst s h).2.2.2.1 vs = csm s.2.2.2.1 (vs.drop (cbl s.2.2.2.1 vs)) := csm_neq hq hR
      have hc := ki_count (b := nI f) k hA hr hvs
      rw [← er] at hc
      refine ⟨none, 0, _, hc, (fun σ1 hR1 => ?_), (fun e he => by cases he), (fun _ => rfl), by omega⟩
      have g := ri_count (b := nI f) hz hR1
      rw [hrow, e1, e2, if_pos cz] at g
      exact g
    · refine ⟨some "java/lang/IllegalArgumentException", 1, 0, (ki_noRow hz k hA cz (nI f)).2.2.2.1, (fun σ1 hR1 => ?_), (fun e he => by cases he; exact ⟨rfl, rfl⟩), (fun y => by cases y), by omega⟩
      have g := ri_count (b := nI f) hz hR1
      rw [if_neg cz] at g
      exact g.mo (fun σ' v g => ⟨g.1, g.2.1, fun y => absurd y (by omega), g.2.2.2⟩)
  obtain ⟨exc, kk, val, h1, h2, h3, h4, h7⟩ := hh
  refine lw_w (t' := s.1.length) (hd := fun τ E => if E = "java/lang/IllegalArgumentException" then some (τ, 1) else none) hL.1 h1 (fun e he => by obtain ⟨rfl, rfl⟩ := h3 e he; exact ⟨by omega, fun τ => if_pos rfl⟩) h4 (by omega) (by omega) (fun σ2 hM hj => ?_)
  refine lw_a (j := 1) hM hL.2.2.2.2 (by omega) (lw_a (j := 2) hM hL.2.2.2.2 (by omega) (fl_if hv2 (P := fun v => pL_law_2029 c9 w9 k23 σ2 b x (x + 98) (x + 143) (nI (6 * i)) _ (x + 98) (xs (6 * i + 1)) v) ?_))
  rw [hv]
  exact lw_17 hM (lw_r hM hj (h2 σ2 hM.2.1) (fun _ => rfl) h7 (fun σ4 c' hM4 hB => nx_of (h' := h) hn hL hM4 hB rfl rfl hL.2.1))
theorem br_2065 (hn : Nx x b L xs i k23) (hL : Lo x b L xs i s c h σ) : pL_law_2065 c9 w9 k23 σ b x (x + 98) (x + 143) (nI (6 * i)) := by
  obtain ⟨o, k⟩ := hL.ki
  obtain ⟨A, hA, hG, hT⟩ := hL.now
  have hb := hL.bds
  refine lw_a (j := 1) hL.1 hL.2.2.2.2 (by omega) (lw_a (j := 2) hL.1 hL.2.2.2.2 (by omega) ?_)
  generalize hv : xs (6 * i + 1) = v
  generalize hu : xs (6 * i + 2) = u
  revert hv hu
  refine int_all (P := fun v => xs (6 * i + 1) = v → xs (6 * i + 2) = u → exW (fL_takeLeast σ x v u (x + 143)) _) (v := v) (fun z hz hv => ?_)
  refine int_all (P := fun u => xs (6 * i + 2) = u → exW (fL_takeLeast σ x (iz z) u (x + 143)) _) (v := u) (fun y hy hu => ?_)
  unfold fL_takeLeast
  by_cases cz : 0 ≤ z ∧ z ≤ 2
  · obtain ⟨r, hr, rfl, er⟩ := rz_of cz
    obtain ⟨vs, hvs, hrow, h50, hR⟩ := row_of (s := s) hG hT hr
    have hc := ki_takeLeast hy h50 k hA hr hvs
    rw [er] at hv ⊢
    by_cases c50 : 0 ≤ y ∧ y < vs.length
    · rw [if_pos c50, if_pos c50] at hc
      refine two_end (fr := fun σ v u => fX12_takeLeast σ (x + 98) v u) (kk := 0) (h' := h) hn hL hc (fun σ1 hR1 => ?_) hd_n (fun _ => rfl) rfl hL.2.1 (by omega) (by omega)
      have g := ri_takeLeast hz hy (show c.1 < 12600 by omega) hR1
      rw [hrow, if_pos cz, if_pos c50, if_pos ⟨cz.1, cz.2, c50⟩] at g
      rw [hv, hu, ← er]
      exact ⟨_, fun _ => rfl, g⟩
    · rw [if_neg c50, if_neg c50] at hc
      refine two_end (fr := fun σ v u => fX12_takeLeast σ (x + 98) v u) (kk := 2) (h' := h) (hd := fun τ E => (if E = "java/lang/IllegalArgumentException" then some (τ, 1) else (if E = "java/lang/IndexOutOfBoundsException" then some (τ, 2) else none))) hn hL hc (fun σ1 hR1 => ?_) (hd_s (by omega) (fun τ => hd_2 (by decide) (Or.inr ⟨rfl, rfl⟩) τ)) (fun z => by cases z) rfl hL.2.1 (by omega) (by omega)
      have g := ri_takeLeast hz hy (show c.1 < 12600 by omega) hR1
      rw [hrow, if_pos cz, if_neg c50, if_neg (fun y => c50 y.2.2)] at g
      rw [hv, hu, ← er]
      exact ⟨_, fun y => by omega, g⟩
  · refine two_end (fr := fun σ v u => fX12_takeLeast σ (x + 98) v u) (kk := 1) (h' := h) (hd := fun τ E => (if E = "java/lang/IllegalArgumentException" then some (τ, 1) else (if E = "java/lang/IndexOutOfBoundsException" then some (τ, 2) else none))) hn hL (ki_noRow hz k hA cz (iz y)).2.2.2.2.1 (fun σ1 hR1 => ?_) (hd_s (by omega) (fun τ => if_pos rfl)) (fun z => by cases z) rfl hL.2.1 (by omega) (by omega)
    have g := ri_takeLeast hz hy (show c.1 < 12600 by omega) hR1
    rw [if_neg cz, if_neg (fun y => cz ⟨y.1, y.2.1⟩)] at g
    rw [hv, hu]
    exact ⟨_, fun y => by omega, g⟩
theorem hd_3 {e : String} {k : Nat} (he : (e = "java/lang/IllegalArgumentException" ∧ k = 1) ∨ (e = "java/util/NoSuchElementException" ∧ k = 2) ∨ (e = "java/lang/ArithmeticException" ∧ k = 3)) (τ : St) : (if e = "java/lang/IllegalArgumentException" then some (τ, (1 : Int32)) else (if e = "java/util/NoSuchElementException" then some (τ, 2) else (if e = "java/lang/ArithmeticException" then some (τ, 3) else none))) = some (τ, nI k) := by
  rcases he with ⟨rfl, rfl⟩ | ⟨rfl, rfl⟩ | ⟨rfl, rfl⟩
  · rw [if_pos rfl]; rfl
  · rw [if_neg (by decide), if_pos rfl]; rfl
  · rw [if_neg (by decide), if_neg (by decide), if_pos rfl]; rfl
theorem br_2189 (hn : Nx x b L xs i k23) (hL : Lo x b L xs i s c h σ) : pL_law_2189 c9 w9 k23 σ b x (x + 98) (x + 143) (nI (6 * i)) := by
  obtain ⟨o, k⟩ := hL.ki
  obtain ⟨A, hA, hG, hT⟩ := hL.now
  have hb := hL.bds
  refine lw_a (j := 1) hL.1 hL.2.2.2.2 (by omega) (lw_a (j := 2) hL.1 hL.2.2.2.2 (by omega) ?_)
  generalize hv : xs (6 * i + 1) = v
  generalize hu : xs (6 * i + 2) = u
  revert hv hu
  refine int_all (P := fun v => xs (6 * i + 1) = v → xs (6 * i + 2) = u → exW (fL_takeAll σ x v u (x + 143)) _) (v := v) (fun z hz hv => ?_)
  refine int_all (P := fun u => xs (6 * i + 2) = u → exW (fL_takeAll σ x (iz z) u (x + 143)) _) (v := u) (fun y hy hu => ?_)
  unfold fL_takeAll
  have hh : ∃ (exc : Option String) (kk : Nat) (val : Int) (s' : Kst), Hx (fX11_takeAll σ x (iz z) (iz y)) (KO x 15 5 s' exc val σ) ∧ (∀ σ1, RI σ1 (x + 98) c (rst s h) → Hx (fX12_takeAll σ1 (x + 98) (iz z) (iz y)) (RO (x + 98) c (rst s h) kk val (rst s' h) σ1)) ∧ (∀ e, exc = some e → (e = "java/lang/IllegalArgumentException" ∧ kk = 1) ∨ (e = "java/util/NoSuchElementException" ∧ kk = 2) ∨ (e = "java/lang/ArithmeticException" ∧ kk = 3)) ∧ (exc = none → kk = 0) ∧ s'.1 = s.1 ∧ Hg s' h ∧ kk < 10 := by
    have hrow : ∃ vs, (0 ≤ z → z ≤ 2 → A.2.2[z.toNat]? = some vs ∧ rowZ (rst s h) z = vs ∧ Rwo vs) := by
      by_cases cz : 0 ≤ z ∧ z ≤ 2
      · obtain ⟨r, hr, rfl, er⟩ := rz_of cz
        obtain ⟨vs, hvs, hrow, h50, hR⟩ := row_of (s := s) hG hT hr
        exact ⟨vs, fun _ _ => ⟨hvs, hrow, hR⟩⟩
      · exact ⟨[], fun q w => absurd ⟨q, w⟩ cz⟩
    obtain ⟨vs, hvs⟩ := hrow
    have hc := ki_takeAll (vs := vs) hz hy k hA (fun q w => (hvs q w).1)
    have hr := fun σ1 hR1 => ri_takeAll (σ := σ1) (m := x + 98) (c := c) (s := rst s h) hz hy (show c.1 + 1 < 12600 by omega) hR1
    by_cases ca : (0 ≤ z ∧ z ≤ 2) ∧ 0 ≤ y ∧ y ≤ 2
    · obtain ⟨g1, g2, g3⟩ := hvs ca.1.1 ca.1.2
      have eal : alc y.toNat vs = allQ y.toNat vs := alc_all (by omega) g3.1
      rw [eal] at hc
      rw [g2] at hr
      by_cases cb : y = 2 ∧ vs = []
      · exact ⟨(some "java/util/NoSuchElementException"), 2, 0, s, (hc.mo (fun σ' v g => (g.2 ca).1 cb)), (fun σ1 hR1 => (hr σ1 hR1).mo (fun σ' v g => (g.2 ca).1 cb)), (fun e he => by cases he; exact Or.inr (Or.inl ⟨rfl, rfl⟩)), (fun z => by cases z), rfl, hL.2.1, (by omega)⟩
      · by_cases cc : qsm (allQ y.toNat vs)
        · exact ⟨none, 0, _, (ansK s (allQ y.toNat vs)), (hc.mo (fun σ' v g => ((g.2 ca).2 cb).1 cc)), (fun σ1 hR1 => (hr σ1 hR1).mo (fun σ' v g => ((g.2 ca).2 cb).1 cc)), (fun e he => by cases he), (fun _ => rfl), rfl, hL.2.1, (by omega)⟩
        · exact ⟨(some "java/lang/ArithmeticException"), 3, 0, s, (hc.mo (fun σ' v g => ((g.2 ca).2 cb).2 cc)), (fun σ1 hR1 => (hr σ1 hR1).mo (fun σ' v g => ((g.2 ca).2 cb).2 cc)), (fun e he => by cases he; exact Or.inr (Or.inr ⟨rfl, rfl⟩)), (fun z => by cases z), rfl, hL.2.1, (by omega)⟩
    · exact ⟨(some "java/lang/IllegalArgumentException"), 1, 0, s, (hc.mo (fun σ' v g => g.1 ca)), (fun σ1 hR1 => (hr σ1 hR1).mo (fun σ' v g => g.1 ca)), (fun e he => by cases he; exact Or.inl ⟨rfl, rfl⟩), (fun z => by cases z), rfl, hL.2.1, (by omega)⟩
  obtain ⟨exc, kk, val, s', h1, h2, h3, h4, h5, h6, h7⟩ := hh
  refine two_end (fr := fun σ v u => fX12_takeAll σ (x + 98) v u) (kk := kk) (h' := h) (hd := fun τ E => (if E = "java/lang/IllegalArgumentException" then some (τ, 1) else (if E = "java/util/NoSuchElementException" then some (τ, 2) else (if E = "java/lang/ArithmeticException" then some (τ, 3) else none)))) hn hL h1 (fun σ1 hR1 => ?_) (fun e he => ⟨by rcases h3 e he with q | q | q <;> omega, fun τ => hd_3 (h3 e he) τ⟩) h4 h5 h6 h7 (by omega)
  rw [hv, hu]
  exact ⟨val, fun _ => rfl, h2 σ1 hR1⟩
theorem br_1757 (hn : Nx x b L xs i k23) (hL : Lo x b L xs i s c h σ) : pL_law_1757 c9 w9 k23 σ b x (x + 98) (x + 143) (nI (6 * i)) := by
  obtain ⟨o, k⟩ := hL.ki
  have hb := hL.bds
  refine lw_a (j := 1) hL.1 hL.2.2.2.2 (by omega) ?_
  generalize hv : xs (6 * i + 1) = v
  revert hv
  refine int_all (P := fun v => xs (6 * i + 1) = v → exW (fL_takeUnit σ x v (x + 143)) _) (v := v) (fun z hz hv => ?_)
  unfold fL_takeUnit
  have hc := ki_takeUnit hz k
  have hr := fun σ1 hR1 => ri_takeUnit (σ := σ1) (m := x + 98) (c := c) (s := rst s h) hz (show c.1 + 9 ≤ 12600 by omega) hR1
  by_cases ca : 0 ≤ z ∧ z < unv (unq s.2.2.2.1)
  · cases hl : unq s.2.2.2.1 with
    | none =>
      rw [hl] at ca
      have : z < -1 := ca.2
      omega
    | some l =>
      rw [hl] at ca
      have hz2 : z < l.length := ca.2
      obtain ⟨u, hu⟩ := get_some (l := l) (i := z.toNat) (by omega)
      refine one_end (fr := fun σ v => fX12_takeUnit σ (x + 98) v) (kk := 0) (h' := h) hn hL (hc.mo (fun σ' v g => g.2 l u hl ca.1 hu)) (fun σ1 hR1 => ?_) hd_n (fun _ => rfl) rfl hL.2.1 (by omega) (by omega)
      rw [hv]
      exact ⟨_, fun _ => rfl, (hr σ1 hR1).mo (fun σ' v g => g.2 l u hl ca.1 hu)⟩
  · refine one_end (fr := fun σ v => fX12_takeUnit σ (x + 98) v) (kk := 1) (h' := h) (hd := fun τ E => (if E = "java/lang/IndexOutOfBoundsException" then some (τ, 1) else none)) hn hL (hc.mo (fun σ' v g => g.1 ca)) (fun σ1 hR1 => ?_) (hd_s (by omega) (fun τ => if_pos rfl)) (fun z => by cases z) rfl hL.2.1 (by omega) (by omega)
    rw [hv]
    exact ⟨_, fun y => by omega, (hr σ1 hR1).mo (fun σ' v g => g.1 ca)⟩
end
