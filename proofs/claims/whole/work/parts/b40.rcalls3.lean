/-! ===== the reference's calls: rows that change ===== -/
def setS (s : Rst) (A' : As) : Rst := (s.1, s.2.1, s.2.2.1, s.2.2.2.1, s.2.2.2.2.1, s.2.2.2.2.2.1, s.2.2.2.2.2.2.1, A', upU s.2.2.2.2.2.2.2.1 s.2.2.2.2.2.2.2.2.1, [])
def setR (s : Rst) (r : Nat) (vs : List Qv) : Rst := setS s (s.2.2.2.2.2.2.2.1.1, s.2.2.2.2.2.2.2.1.2.1, s.2.2.2.2.2.2.2.1.2.2.set r vs)
theorem ri_changed {σ σ7 : St} {m : Nat} {c : Rct} {s : Rst} {A' : As} {F B : List Nat} (h : RI σ m c s) (r : rfM m F B nV σ σ7) (hF : (∀ f ∈ [5, 8, 9, 21, 25, 43, 44, 45, 46, 56, 57, 72, 73, 78], f ∉ F) ∧ ∀ a ∈ [5, 6, 7, 8, 9, 10, 11, 12, 25, 35, 39, 40, 41, 43], a ∉ B) (hs : Rda (snpR (sA σ7 (m + 38)) 0) (curR σ m)) (hS : Snp σ7 m c.1 c.2.1 c.2.2 (curR σ7 m) A') :
    Hx (fX12_changes σ7 m) (fun σ' _ => rfM m [72, 73] [39] nV σ7 σ' ∧ RI σ' m c (setS s A')) := by
  obtain ⟨⟨a1, a2, a3, a4⟩, ⟨b1, b2, b3, b4⟩, d, ⟨e1, e2, e3⟩, f⟩ := h
  obtain ⟨g1, g2⟩ := hF
  have hK : Kp m c.1 c.2.1 c.2.2 σ σ7 := Kp.of r ⟨⟨g2 6 (by decide), g2 7 (by decide), g2 8 (by decide), g2 9 (by decide)⟩, g2 10 (by decide), g2 11 (by decide), g2 12 (by decide)⟩ (fun _ _ _ z => z)
  refine (rh_changed d r (r.ms a1) ⟨g1 72 (by decide), g1 73 (by decide)⟩ (g2 39 (by decide)) hK hs hS).mo (fun σ' _ g => ⟨g.1, ?_⟩)
  obtain ⟨r2, hH⟩ := g
  have hK2 : Kp m c.1 c.2.1 c.2.2 σ7 σ' := Kp.of r2 (by decide) (fun _ _ _ z => z)
  exact ⟨⟨r2.ms (r.ms a1), (a2.keep r (g1 8 (by decide)) (g2 5 (by decide))).keep r2 (by decide) (by decide), (a3.keep r (g1 9 (by decide))).keep r2 (by decide), (a4.keep r ⟨g1 43 (by decide), g1 44 (by decide), g1 45 (by decide), g1 46 (by decide)⟩ (g2 35 (by decide))).keep r2 (by decide) (by decide)⟩,
    ⟨(b1.keep r hK (g1 57 (by decide))).keep r2 hK2 (by decide), (b2.keep r hK (g2 41 (by decide))).keep r2 hK2 (by decide), (b3.keep r (g1 78 (by decide)) (g2 43 (by decide))).keep r2 (by decide) (by decide), (b4.keep r (g1 56 (by decide)) (g2 25 (by decide)) (fun _ _ _ z => z)).keep r2 (by decide) (by decide) (fun _ _ _ z => z)⟩,
    hH, ⟨(e1.keep r (g1 5 (by decide))).keep r2 (by decide), (e2.keep r (g1 21 (by decide))).keep r2 (by decide), (e3.keep r (g1 25 (by decide))).keep r2 (by decide)⟩, f⟩
/-- one row of values is another now -/
theorem ri_rowset {σ σ7 : St} {m r0 : Nat} {c : Rct} {s : Rst} {vs : List Qv} (h : RI σ m c s) (hr0 : r0 < 3) (r : rfM m [] [1, 2, 36, 37, 38] nV σ σ7) (hs : Rda (snpR (sA σ7 (m + 38)) 0) (curR σ m)) (hn : Rw1 σ7 m c.1 r0 vs) (ho : ∀ r', r' ≠ r0 → sA σ7 (m + 37) r' = sA σ (m + 37) r' ∧ ∀ i, i < 50 → sA σ7 (m + 36) (50 * r' + i) = sA σ (m + 36) (50 * r' + i)) :
    Hx (fX12_changes σ7 m) (fun σ' _ => rfM m [72, 73] [39] nV σ7 σ' ∧ RI σ' m c (setR s r0 vs)) := by
  have hK : Kp m c.1 c.2.1 c.2.2 σ σ7 := Kp.of r (by decide) (fun _ _ _ z => z)
  have hcur := h.2.2.1.cur
  have hcur7 := hcur.kp hK
  obtain ⟨⟨b1, b2, b3, b4⟩, h2, h3, h4⟩ := hcur7
  have e40 : sI σ7 (fid 16 40) m = sI σ (fid 16 40) m := r.fd (by decide)
  have e41 : sI σ7 (fid 16 41) m = sI σ (fid 16 41) m := r.fd (by decide)
  have e18 : sA σ7 (m + 18) = sA σ (m + 18) := r.ar 18 ⟨by decide, by omega, by omega⟩
  have e19 : sA σ7 (m + 19) = sA σ (m + 19) := r.ar 19 ⟨by decide, by omega, by omega⟩
  have e20 : sA σ7 (m + 20) = sA σ (m + 20) := r.ar 20 ⟨by decide, by omega, by omega⟩
  refine ri_changed h r ⟨by decide, by decide⟩ hs ⟨⟨e40.trans b1, b2, e41.trans b3, b4⟩, fun k e he => ?_, fun k e he => ?_, ?_⟩
  · obtain ⟨a1, a2, ⟨d, a3, a4⟩, vi, a5, a6⟩ := h2 k e he
    exact ⟨by show sA σ7 (m + 18) k = _; rw [e18]; exact a1, a2, ⟨d, by show sA σ7 (m + 19) k = _; rw [e19]; exact a3, a4⟩, vi, by show sA σ7 (m + 20) k = _; rw [e20]; exact a5, a6⟩
  · obtain ⟨a1, a2, d, a3, a4⟩ := h3 k e he
    exact ⟨by show sA σ7 (m + 18) (20 + k) = _; rw [e18]; exact a1, a2, d, by show sA σ7 (m + 19) (20 + k) = _; rw [e19]; exact a3, a4⟩
  · refine ⟨by rw [List.length_set]; exact h4.1, fun r' vs' hr' => ?_⟩
    rw [List.getElem?_set] at hr'
    by_cases cr : r0 = r'
    · subst cr
      rw [if_pos rfl, if_pos (by have := h4.1; omega)] at hr'
      cases hr'
      exact hn
    · rw [if_neg cr] at hr'
      obtain ⟨q1, q2, q3⟩ := h4.2 r' vs' hr'
      obtain ⟨o1, o2⟩ := ho r' (fun z => cr z.symm)
      refine ⟨o1.trans q1, q2, fun i q hi => ?_⟩
      obtain ⟨vi, q4, q5⟩ := q3 i q hi
      have := (List.getElem?_eq_some_iff.mp hi).1
      exact ⟨vi, (o2 i (by omega)).trans q4, q5⟩
theorem ri_empty {σ : St} {m : Nat} {c : Rct} {s : Rst} {z : Int} (hz : -2147483648 ≤ z ∧ z < 2147483648) (h : RI σ m c s) : Hx (fX12_empty σ m (iz z)) (RO m c s (if 0 ≤ z ∧ z ≤ 2 then 0 else 1) (rowZ s z).length (if 0 ≤ z ∧ z ≤ 2 then setR s z.toNat [] else s) σ) := by
  rw [n_fX12_empty]
  refine rf_set0 h.1.1 (fun σ1 r1 m1 f0 => ?_)
  have h1 := h.k0 r1
  rw [rf_ck m1]
  refine hx_bs ?_
  refine Hx.bd (rf_noRow hz m1 f0) (fun σ2 v g => ?_)
  rcases g with ⟨c1, rfl, rfl⟩ | ⟨c1, rfl, r2, f2⟩
  · refine Hx.ce rfl (fun _ => ?_) (fun q => absurd rfl q)
    obtain ⟨i, rfl⟩ := Int.eq_ofNat_of_zero_le c1.1
    have hi : i < 3 := by omega
    obtain ⟨vs, hvs, hR⟩ := h1.2.2.1.row hi
    rw [rowZ_of hvs, if_pos c1, if_pos c1, Int.toNat_natCast, ← sm_iz, rf_ck m1]
    refine hx_bs ?_
    refine Hx.bd (rf_saves m1) (fun σ3 _ g => ?_)
    obtain ⟨g1, g2⟩ := g
    have m3 := g1.ms m1
    rw [rf_rowMany m3]
    refine hx_bs ?_
    rw [ld_rowMany m3 hi, g1.ar 37 ⟨by decide, by omega, by omega⟩, hR.1]
    refine hx_bs ?_
    refine hx_bs ?_
    rw [st_rowMany m3 hi]
    refine hx_bs ?_
    have w : rfM m [] [37] nV σ3 (wA σ3 (m + 37) i (nI 0)) := rfM.wA (by simp) (by omega)
    have r7 : rfM m [] [1, 2, 36, 37, 38] nV σ2 (wA σ3 (m + 37) i (nI 0)) := (g1.mo ⟨by decide, by decide⟩ (fun _ q => q)).tr (w.mo ⟨by decide, by decide⟩ (fun _ q => q))
    have m7 := w.ms m3
    rw [rf_ck m7]
    refine hx_bs ?_
    refine Hx.bd (ri_rowset (vs := []) h1 hi r7 (by rw [w.ar 38 ⟨by decide, by omega, by omega⟩]; exact g2) ⟨sA_wA_eq, by show 0 ≤ 50; omega, fun i q h => (by cases h)⟩ (fun r' hr' => ⟨?_, fun j _ => ?_⟩)) (fun σ8 _ g => ?_)
    · rw [sA_wA_j hr', g1.ar 37 ⟨by decide, by omega, by omega⟩]
    · rw [sA_wA_b (by omega), g1.ar 36 ⟨by decide, by omega, by omega⟩]
    · obtain ⟨g3, g4⟩ := g
      exact Hx.ret ⟨(r1.1.tr r7.1).tr g3.1, (f0.keep r7 (by decide)).keep g3 (by decide), fun _ => sm_iz _, c, g4, RBd.rf rfl⟩
  · refine Hx.ce (sm_eq (show 1 < 2147483648 by omega) (by omega)) (fun z => absurd z (by omega)) (fun _ => ?_)
    rw [if_neg c1, if_neg c1]
    exact Hx.ret ⟨r1.1.tr r2.1, f2, fun q => (by cases q), c, h1.k0 r2, RBd.rf rfl⟩
/-- a value's place is made free -/
theorem rf_put_56 {m r p ai : Nat} {vs : List Qv} {q : Qv} {σ0 : St} {c : Rct} {s : Rst} {X : Nat → Int32} {P : St → Int32 → Prop} (hr : r < 3) (hp : p ≤ vs.length) (hl : vs.length < 50)
    (hK : ∀ σ, MS σ m → rfM m [] [36] nV σ0 σ → (∀ j, j < p → sA σ (m + 36) (50 * r + j) = X (50 * r + j)) → (∀ j, p < j → j ≤ vs.length → sA σ (m + 36) (50 * r + j) = X (50 * r + (j - 1))) → (∀ i, (i < 50 * r ∨ 50 * r + 50 ≤ i) → sA σ (m + 36) i = X i) → Hx (fX12_put_56 1 σ m (nI r) (nI p) (nI p)) P) :
    ∀ (n k : Nat) (σ : St), k - p < n → p ≤ k → k ≤ vs.length → MS σ m → rfM m [] [36] nV σ0 σ → (∀ j, j ≤ k → sA σ (m + 36) (50 * r + j) = X (50 * r + j)) → (∀ j, k < j → j ≤ vs.length → sA σ (m + 36) (50 * r + j) = X (50 * r + (j - 1))) → (∀ i, (i < 50 * r ∨ 50 * r + 50 ≤ i) → sA σ (m + 36) i = X i) → Hx (fX12_put_56 n σ m (nI r) (nI p) (nI k)) P := by
  intro n
  induction n with
  | zero => intro k σ h; omega
  | succ n ih =>
    intro k σ hn hk1 hk2 hm hR h1 h2 h3
    by_cases ck : k = p
    · subst ck
      have := hK σ hm hR (fun j hj => h1 j (by omega)) h2 h3
      rw [n_fX12_put_56] at this ⊢
      have hle : nI k ≤ nI k := by rw [sm_le (by omega) (by omega)]; exact Nat.le_refl _
      rw [if_pos hle] at this ⊢
      exact this
    · rw [n_fX12_put_56]
      refine Hx.ce (sm_le (by omega) (by omega)) (fun z => absurd z (by omega)) (fun _ => ?_)
      rw [rf_row hm]
      refine hx_bs ?_
      refine hx_bs ?_
      rw [sm_mul, sm_add, sm_sub (by omega), ld_row hm (by omega)]
      refine hx_bs ?_
      rw [st_row hm (by omega)]
      refine hx_bs ?_
      refine hx_nm ?_
      have w : rfM m [] [36] nV σ (wA σ (m + 36) (50 * r + k) (sA σ (m + 36) (50 * r + k - 1))) := rfM.wA (by simp) (by omega)
      rw [show nI k + iz (-1) = nI (k - 1) by rw [sm_iz, iz_add, sm_iz]; congr 1; omega]
      refine ih (k - 1) _ (by omega) (by omega) (by omega) (w.ms hm) (hR.tr w) (fun j hj => ?_) (fun j hj1 hj2 => ?_) (fun i hi => ?_)
      · rw [sA_wA_j (by omega)]; exact h1 j (by omega)
      · by_cases cj : j = k
        · subst cj
          rw [sA_wA_eq, show 50 * r + j - 1 = 50 * r + (j - 1) by omega]
          exact h1 (j - 1) (by omega)
        · rw [sA_wA_j (by omega)]; exact h2 j (by omega) hj2
      · rw [sA_wA_j (by omega)]; exact h3 i hi
theorem ri_put {σ : St} {m : Nat} {c : Rct} {s : Rst} {z : Int} (hz : -2147483648 ≤ z ∧ z < 2147483648) (h : RI σ m c s) : Hx (fX12_put σ m (iz z)) (RO m c s (if 0 ≤ z ∧ z ≤ 2 then if (rowZ s z).length < 50 then 0 else 2 else 1) ((rowZ s z).length + 1 : Nat) (if 0 ≤ z ∧ z ≤ 2 ∧ (rowZ s z).length < 50 then setR s z.toNat (plL (rowZ s z) (nlt s.2.2.2.1 (rowZ s z)) 1 s.2.2.2.1) else s) σ) := by
  rw [n_fX12_put]
  refine rf_set0 h.1.1 (fun σ1 r1 m1 f0 => ?_)
  have h1 := h.k0 r1
  rw [rf_ck m1]
  refine hx_bs ?_
  refine Hx.bd (rf_noRow hz m1 f0) (fun σ2 v g => ?_)
  rcases g with ⟨c1, rfl, rfl⟩ | ⟨c1, rfl, r2, f2⟩
  · refine Hx.ce rfl (fun _ => ?_) (fun q => absurd rfl q)
    obtain ⟨i, rfl⟩ := Int.eq_ofNat_of_zero_le c1.1
    have hi : i < 3 := by omega
    obtain ⟨vs, hvs, hR⟩ := h1.2.2.1.row hi
    have hl := hR.2.1
    have hnl := nlt_le s.2.2.2.1 vs
    rw [rowZ_of hvs, if_pos c1, Int.toNat_natCast, ← sm_iz, rf_rowMany m1]
    refine hx_bs ?_
    rw [ld_rowMany m1 hi, hR.1]
    refine hx_bs ?_
    refine Hx.ce (sm_le (by omega) (by omega)) (fun c2 => ?_) (fun c2 => ?_)
    · rw [n_fX12_put_30, rf_ck m1]
      refine hx_bs ?_
      refine Hx.bd (rf_fails0 m1 f0 (show 0 < 2 by omega) (by omega)) (fun σ5 v g => ?_)
      obtain ⟨rfl, r5, f5⟩ := g
      refine Hx.ce (sm_eq (show 1 < 2147483648 by omega) (by omega)) (fun z => absurd z (by omega)) (fun _ => ?_)
      rw [if_neg (by omega), if_neg (by omega)]
      exact Hx.ret ⟨r1.1.tr r5.1, f5, fun q => (by cases q), c, h1.k0 r5, RBd.rf rfl⟩
    · rw [n_fX12_put_30, rf_ck m1]
      refine hx_bs ?_
      rw [rf_fails1 m1 f0]
      refine hx_cs (Hx.ce rfl (fun _ => ?_) (fun q => absurd rfl q))
      rw [rf_ck m1]
      refine hx_bs ?_
      refine Hx.bd (rf_saves m1) (fun σ3 _ g => ?_)
      obtain ⟨g1, g2⟩ := g
      have m3 := g1.ms m1
      have h3 : RI σ3 m c s := h1.keep g1 ⟨by decide, by decide⟩ (fun _ _ _ => Or.inl (fun z => z))
      have hR3 := hR.keep g1 (by decide) (fun _ _ _ z => z)
      rw [rf_ck m3]
      refine hx_bs ?_
      refine Hx.bd (ri_mB h3 hi hvs hR3) (fun σ4 v g => ?_)
      obtain ⟨rfl, r4⟩ := g
      have m4 := r4.ms m3
      have hR4 := hR3.keep r4 (by decide) (fun _ _ _ z => z)
      obtain ⟨ai, a1, a2⟩ := (h3.k12 r4).2.1.1
      rw [rf_rowMany m4]
      refine hx_bs ?_
      rw [ld_rowMany m4 hi, hR4.1]
      refine hx_bs ?_
      have c3 : vs.length < 50 := by omega
      refine rf_put_56 (q := s.2.2.2.1) (ai := ai) (c := c) (s := s) (σ0 := σ4) (X := sA σ4 (m + 36)) hi hnl c3 (fun σ5 m5 r5 u1 u2 u3 => ?_) FU vs.length σ4 (by unfold FU; omega) hnl (Nat.le_refl _) m4 rfM.rf (fun _ _ => rfl) (fun j h1 h2 => by omega) (fun _ _ => rfl)
      rw [n_fX12_put_56]
      refine Hx.ce (sm_le (by omega) (by omega)) (fun _ => ?_) (fun z => absurd (Nat.le_refl _) z)
      rw [rf_row m5]
      refine hx_bs ?_
      rw [fi_g m5 (a1.keep r5 (by decide))]
      refine hx_bs ?_
      rw [sm_mul, sm_add, st_row m5 (by omega)]
      refine hx_bs ?_
      have w6 : rfM m [] [36] nV σ5 (wA σ5 (m + 36) (50 * i + nlt s.2.2.2.1 vs) (nI ai)) := rfM.wA (by simp) (by omega)
      obtain ⟨σ6, e6⟩ : ∃ s', s' = wA σ5 (m + 36) (50 * i + nlt s.2.2.2.1 vs) (nI ai) := ⟨_, rfl⟩
      rw [← e6] at w6 ⊢
      have m6 := w6.ms m5
      rw [rf_rowMany m6]
      refine hx_bs ?_
      rw [ld_rowMany m6 hi, w6.ar 37 ⟨by decide, by omega, by omega⟩, r5.ar 37 ⟨by decide, by omega, by omega⟩, hR4.1]
      refine hx_bs ?_
      rw [sm_add, st_rowMany m6 hi]
      refine hx_bs ?_
      have w7 : rfM m [] [37] nV σ6 (wA σ6 (m + 37) i (nI (vs.length + 1))) := rfM.wA (by simp) (by omega)
      obtain ⟨σ7, e7⟩ : ∃ s', s' = wA σ6 (m + 37) i (nI (vs.length + 1)) := ⟨_, rfl⟩
      rw [← e7] at w7 ⊢
      have m7 := w7.ms m6
      have r47 : rfM m [] [36, 37] nV σ4 σ7 := (r5.mo ⟨by decide, by decide⟩ (fun _ q => q)).tr ((w6.mo ⟨by decide, by decide⟩ (fun _ q => q)).tr (w7.mo ⟨by decide, by decide⟩ (fun _ q => q)))
      have r7 : rfM m [] [1, 2, 36, 37, 38] nV σ2 σ7 := (g1.mo ⟨by decide, by decide⟩ (fun _ q => q)).tr ((r4.mo ⟨by decide, by decide⟩ (fun _ q => q)).tr (r47.mo ⟨by decide, by decide⟩ (fun _ q => q)))
      have e36 : ∀ x, sA σ7 (m + 36) x = if x = 50 * i + nlt s.2.2.2.1 vs then nI ai else sA σ5 (m + 36) x := by
        intro x
        rw [w7.ar 36 ⟨by decide, by omega, by omega⟩, e6]
        split
        · rename_i cx
          rw [cx, sA_wA_eq]
        · rename_i cx
          rw [sA_wA_j cx]
      have o36 : sA σ4 (m + 36) = sA σ2 (m + 36) := by rw [r4.ar 36 ⟨by decide, by omega, by omega⟩, g1.ar 36 ⟨by decide, by omega, by omega⟩]
      have hK47 : Kp m c.1 c.2.1 c.2.2 σ4 σ7 := Kp.of r47 (by decide) (fun _ _ _ z => z)
      have hn : Rw1 σ7 m c.1 i (plL vs (nlt s.2.2.2.1 vs) 1 s.2.2.2.1) := by
        refine ⟨?_, ?_, fun j x hj => ?_⟩
        · rw [e7, sA_wA_eq, plL_len hnl (Or.inl rfl)]
        · rw [plL_len hnl (Or.inl rfl)]; omega
        · have hjl := (List.getElem?_eq_some_iff.mp hj).1
          rw [plL_len hnl (Or.inl rfl)] at hjl
          rw [plL_get hnl (Or.inl rfl)] at hj
          by_cases cj : j = nlt s.2.2.2.1 vs
          · rw [if_pos cj] at hj
            cases hj
            exact ⟨ai, by rw [e36, if_pos (by omega)], a2.kp hK47⟩
          · rw [if_neg cj] at hj
            by_cases cl : nlt s.2.2.2.1 vs < j
            · rw [if_pos ⟨rfl, cl⟩] at hj
              obtain ⟨vi, v1, v2⟩ := hR4.2.2 _ _ hj
              exact ⟨vi, by rw [e36, if_neg (by omega), u2 j cl (by omega)]; exact v1, v2.kp hK47⟩
            · rw [if_neg (fun z => cl z.2)] at hj
              obtain ⟨vi, v1, v2⟩ := hR4.2.2 _ _ hj
              exact ⟨vi, by rw [e36, if_neg (by omega), u1 j (by omega)]; exact v1, v2.kp hK47⟩
      rw [rf_ck m7]
      refine hx_bs ?_
      refine Hx.bd (ri_rowset h1 hi r7 (by rw [r47.ar 38 ⟨by decide, by omega, by omega⟩, r4.ar 38 ⟨by decide, by omega, by omega⟩]; exact g2) hn (fun r' hr' => ⟨?_, fun j hj => ?_⟩)) (fun σ8 _ g => ?_)
      · rw [e7, sA_wA_j hr', w6.ar 37 ⟨by decide, by omega, by omega⟩, r5.ar 37 ⟨by decide, by omega, by omega⟩, r4.ar 37 ⟨by decide, by omega, by omega⟩, g1.ar 37 ⟨by decide, by omega, by omega⟩]
      · have : r' < i ∨ i < r' := by omega
        rw [e36, if_neg (by omega), u3 _ (by omega), o36]
      · obtain ⟨g3, g4⟩ := g
        have m8 := g3.ms m7
        rw [rf_rowMany m8]
        refine hx_bs ?_
        rw [ld_rowMany m8 hi, g3.ar 37 ⟨by decide, by omega, by omega⟩, hn.1, plL_len hnl (Or.inl rfl), if_pos c3, if_pos (by omega)]
        refine hx_bs (Hx.ret ⟨(r1.1.tr r7.1).tr g3.1, (f0.keep r7 (by decide)).keep g3 (by decide), fun _ => sm_iz _, c, g4, RBd.rf rfl⟩)
  · refine Hx.ce (sm_eq (show 1 < 2147483648 by omega) (by omega)) (fun z => absurd z (by omega)) (fun _ => ?_)
    rw [if_neg c1, if_neg (by omega)]
    exact Hx.ret ⟨r1.1.tr r2.1, f2, fun q => (by cases q), c, h1.k0 r2, RBd.rf rfl⟩
