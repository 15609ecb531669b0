/-! ===== the reference's calls: a value goes out; undo and redo; two slots compared ===== -/
theorem eraseIdx_get {α : Type} {l : List α} {p j : Nat} : (l.eraseIdx p)[j]? = if j < p then l[j]? else l[j + 1]? := List.getElem?_eraseIdx
theorem rf_out_58 {m r p N : Nat} {σ0 : St} {X : Nat → Int32} {P : St → Int32 → Prop} (hr : r < 3) (hN : N < 50)
    (hK : ∀ σ, MS σ m → rfM m [] [36] nV σ0 σ → (∀ j, j < p → sA σ (m + 36) (50 * r + j) = X (50 * r + j)) → (∀ j, p ≤ j → j < N → sA σ (m + 36) (50 * r + j) = X (50 * r + (j + 1))) → (∀ i, (i < 50 * r ∨ 50 * r + 50 ≤ i) → sA σ (m + 36) i = X i) → Hx (fX12_out_58 1 σ m (nI r) (nI N)) P) (h37 : sA σ0 (m + 37) r = nI N) :
    ∀ (n k : Nat) (σ : St), N - k < n → p ≤ k → k ≤ N → MS σ m → rfM m [] [36] nV σ0 σ → (∀ j, j < p → sA σ (m + 36) (50 * r + j) = X (50 * r + j)) → (∀ j, p ≤ j → j < k → sA σ (m + 36) (50 * r + j) = X (50 * r + (j + 1))) → (∀ j, k ≤ j → j < 50 → sA σ (m + 36) (50 * r + j) = X (50 * r + j)) → (∀ i, (i < 50 * r ∨ 50 * r + 50 ≤ i) → sA σ (m + 36) i = X i) → Hx (fX12_out_58 n σ m (nI r) (nI k)) P := by
  intro n
  induction n with
  | zero => intro k σ h; omega
  | succ n ih =>
    intro k σ hn hk1 hk2 hm hR h1 h2 h4 h3
    have e37 : sA σ (m + 37) r = nI N := by rw [hR.ar 37 ⟨by decide, by omega, by omega⟩]; exact h37
    by_cases ck : k = N
    · subst ck
      have := hK σ hm hR h1 h2 h3
      rw [n_fX12_out_58, rf_rowMany hm] at this ⊢
      have this : Hx (Option.bind (ldI σ (m + 37) (nI r)) _) P := this
      refine hx_bs ?_
      rw [ld_rowMany hm hr, e37] at this ⊢
      refine hx_bs ?_
      refine Hx.ce (sm_le (by omega) (by omega)) (fun _ => ?_) (fun z => absurd (Nat.le_refl _) z)
      have this : Hx (@ite _ (nI k ≤ nI k) _ _ _) P := this
      rw [if_pos (by rw [sm_le (by omega) (by omega)]; exact Nat.le_refl _)] at this
      exact this
    · rw [n_fX12_out_58, rf_rowMany hm]
      refine hx_bs ?_
      rw [ld_rowMany hm hr, e37]
      refine hx_bs ?_
      refine Hx.ce (sm_le (by omega) (by omega)) (fun z => absurd z (by omega)) (fun _ => ?_)
      rw [rf_row hm]
      refine hx_bs ?_
      refine hx_bs ?_
      rw [sm_mul, sm_add, sm_add, ld_row hm (by omega)]
      refine hx_bs ?_
      rw [st_row hm (by omega)]
      refine hx_bs ?_
      refine hx_nm ?_
      have w : rfM m [] [36] nV σ (wA σ (m + 36) (50 * r + k) (sA σ (m + 36) (50 * r + k + 1))) := rfM.wA (by simp) (by omega)
      rw [sm_add]
      refine ih (k + 1) _ (by omega) (by omega) (by omega) (w.ms hm) (hR.tr w) (fun j hj => ?_) (fun j hj1 hj2 => ?_) (fun j hj1 hj2 => ?_) (fun i hi => ?_)
      · rw [sA_wA_j (by omega)]; exact h1 j hj
      · by_cases cj : j = k
        · subst cj
          rw [sA_wA_eq]
          exact h4 (j + 1) (by omega) (by omega)
        · rw [sA_wA_j (by omega)]; exact h2 j hj1 (by omega)
      · rw [sA_wA_j (by omega)]; exact h4 j (by omega) hj2
      · rw [sA_wA_j (by omega)]; exact h3 i hi
theorem ri_out {σ : St} {m : Nat} {c : Rct} {s : Rst} {z : Int} (hz : -2147483648 ≤ z ∧ z < 2147483648) (h : RI σ m c s) (hlt : 0 < neq s.2.2.2.1 (rowZ s z) → nlt s.2.2.2.1 (rowZ s z) < (rowZ s z).length) : Hx (fX12_out σ m (iz z)) (RO m c s (if 0 ≤ z ∧ z ≤ 2 then if 0 < neq s.2.2.2.1 (rowZ s z) then 0 else 2 else 1) ((rowZ s z).length - 1 : Nat) (if 0 ≤ z ∧ z ≤ 2 ∧ 0 < neq s.2.2.2.1 (rowZ s z) then setR s z.toNat ((rowZ s z).eraseIdx (nlt s.2.2.2.1 (rowZ s z))) else s) σ) := by
  rw [n_fX12_out]
  refine rf_set0 h.1.1 (fun σ1 r1 m1 f0 => ?_)
  have h1 := h.k0 r1
  rw [rf_ck m1]
  refine hx_bs ?_
  refine Hx.bd (rf_noRow hz m1 f0) (fun σ2 v g => ?_)
  rcases g with ⟨c1, rfl, rfl⟩ | ⟨c1, rfl, r2, f2⟩
  · refine Hx.ce rfl (fun _ => ?_) (fun q => absurd rfl q)
    obtain ⟨i, rfl⟩ := Int.eq_ofNat_of_zero_le c1.1
    have hi : i < 3 := by omega
    obtain ⟨vs, hvs, hR⟩ := h1.2.2.1.row hi
    rw [rowZ_of hvs] at hlt ⊢
    have hl := hR.2.1
    have hnl := nlt_le s.2.2.2.1 vs
    have hne := neq_le s.2.2.2.1 vs
    rw [if_pos c1, Int.toNat_natCast, ← sm_iz, rf_ck m1]
    refine hx_bs ?_
    refine Hx.bd (ri_mS h1 hi hvs hR) (fun σa v g => ?_)
    obtain ⟨rfl, ra⟩ := g
    have ma := ra.ms m1
    have ha := h1.k12 ra
    have hRa := hR.keep ra (by decide) (fun _ _ _ z => z)
    have fa := f0.keep ra (by decide)
    refine Hx.ce (sm_le (by omega) (by omega)) (fun c2 => ?_) (fun c2 => ?_)
    · rw [n_fX12_out_27, rf_ck ma]
      refine hx_bs ?_
      refine Hx.bd (rf_fails0 ma fa (show 0 < 2 by omega) (by omega)) (fun σ5 v g => ?_)
      obtain ⟨rfl, r5, f5⟩ := g
      refine Hx.ce (sm_eq (show 1 < 2147483648 by omega) (by omega)) (fun z => absurd z (by omega)) (fun _ => ?_)
      rw [if_neg (by omega), if_neg (by omega)]
      exact Hx.ret ⟨(r1.1.tr ra.1).tr r5.1, f5, fun q => (by cases q), c, ha.k0 r5, RBd.rf rfl⟩
    · have c3 : 0 < neq s.2.2.2.1 vs := by omega
      have hp := hlt c3
      rw [n_fX12_out_27, rf_ck ma]
      refine hx_bs ?_
      rw [rf_fails1 ma fa]
      refine hx_cs (Hx.ce rfl (fun _ => ?_) (fun q => absurd rfl q))
      rw [rf_ck ma]
      refine hx_bs ?_
      refine Hx.bd (rf_saves ma) (fun σ3 _ g => ?_)
      obtain ⟨g1, g2⟩ := g
      have m3 := g1.ms ma
      have h3 : RI σ3 m c s := ha.keep g1 ⟨by decide, by decide⟩ (fun _ _ _ => Or.inl (fun z => z))
      have hR3 := hRa.keep g1 (by decide) (fun _ _ _ z => z)
      rw [rf_ck m3]
      refine hx_bs ?_
      refine Hx.bd (ri_mB h3 hi hvs hR3) (fun σ4 v g => ?_)
      obtain ⟨rfl, r4⟩ := g
      have m4 := r4.ms m3
      have hR4 := hR3.keep r4 (by decide) (fun _ _ _ z => z)
      rw [rf_rowMany m4]
      refine hx_bs ?_
      rw [ld_rowMany m4 hi, hR4.1]
      refine hx_bs ?_
      rw [sm_sub (by omega), st_rowMany m4 hi]
      refine hx_bs ?_
      have w5 : rfM m [] [37] nV σ4 (wA σ4 (m + 37) i (nI (vs.length - 1))) := rfM.wA (by simp) (by omega)
      obtain ⟨σ5, e5⟩ : ∃ s', s' = wA σ4 (m + 37) i (nI (vs.length - 1)) := ⟨_, rfl⟩
      rw [← e5] at w5 ⊢
      have m5 := w5.ms m4
      have n37 : sA σ5 (m + 37) i = nI (vs.length - 1) := by rw [e5, sA_wA_eq]
      refine rf_out_58 (p := nlt s.2.2.2.1 vs) (N := vs.length - 1) (σ0 := σ5) (X := sA σ5 (m + 36)) hi (by omega) (fun σ6 m6 r6 u1 u2 u3 => ?_) n37 FU (nlt s.2.2.2.1 vs) σ5 (by unfold FU; omega) (Nat.le_refl _) (by omega) m5 rfM.rf (fun _ _ => rfl) (fun j h1 h2 => by omega) (fun _ _ _ => rfl) (fun _ _ => rfl)
      have e37 : sA σ6 (m + 37) i = nI (vs.length - 1) := by rw [r6.ar 37 ⟨by decide, by omega, by omega⟩]; exact n37
      have r46 : rfM m [] [36, 37] nV σ4 σ6 := (w5.mo ⟨by decide, by decide⟩ (fun _ q => q)).tr (r6.mo ⟨by decide, by decide⟩ (fun _ q => q))
      have r7 : rfM m [] [1, 2, 36, 37, 38] nV σa σ6 := (g1.mo ⟨by decide, by decide⟩ (fun _ q => q)).tr ((r4.mo ⟨by decide, by decide⟩ (fun _ q => q)).tr (r46.mo ⟨by decide, by decide⟩ (fun _ q => q)))
      have o36 : sA σ5 (m + 36) = sA σ4 (m + 36) := w5.ar 36 ⟨by decide, by omega, by omega⟩
      have o36' : sA σ4 (m + 36) = sA σa (m + 36) := by rw [r4.ar 36 ⟨by decide, by omega, by omega⟩, g1.ar 36 ⟨by decide, by omega, by omega⟩]
      have hK46 : Kp m c.1 c.2.1 c.2.2 σ4 σ6 := Kp.of r46 (by decide) (fun _ _ _ z => z)
      have hel : (vs.eraseIdx (nlt s.2.2.2.1 vs)).length = vs.length - 1 := List.length_eraseIdx_of_lt hp
      have hn : Rw1 σ6 m c.1 i (vs.eraseIdx (nlt s.2.2.2.1 vs)) := by
        refine ⟨?_, ?_, fun j x hj => ?_⟩
        · rw [hel]; exact e37
        · rw [hel]; omega
        · have hjl := (List.getElem?_eq_some_iff.mp hj).1
          rw [hel] at hjl
          rw [eraseIdx_get] at hj
          by_cases cj : j < nlt s.2.2.2.1 vs
          · rw [if_pos cj] at hj
            obtain ⟨vi, v1, v2⟩ := hR4.2.2 _ _ hj
            exact ⟨vi, by rw [u1 j cj, o36]; exact v1, v2.kp hK46⟩
          · rw [if_neg cj] at hj
            obtain ⟨vi, v1, v2⟩ := hR4.2.2 _ _ hj
            exact ⟨vi, by rw [u2 j (by omega) (by omega), o36]; exact v1, v2.kp hK46⟩
      rw [n_fX12_out_58, rf_rowMany m6]
      refine hx_bs ?_
      rw [ld_rowMany m6 hi, e37]
      refine hx_bs ?_
      refine Hx.ce (sm_le (by omega) (by omega)) (fun _ => ?_) (fun z => absurd (Nat.le_refl _) z)
      rw [rf_ck m6]
      refine hx_bs ?_
      refine Hx.bd (ri_rowset ha hi r7 (by rw [r46.ar 38 ⟨by decide, by omega, by omega⟩, r4.ar 38 ⟨by decide, by omega, by omega⟩]; exact g2) hn (fun r' hr' => ⟨?_, fun j hj => ?_⟩)) (fun σ8 _ g => ?_)
      · rw [r6.ar 37 ⟨by decide, by omega, by omega⟩, e5, sA_wA_j hr', r4.ar 37 ⟨by decide, by omega, by omega⟩, g1.ar 37 ⟨by decide, by omega, by omega⟩]
      · have : r' < i ∨ i < r' := by omega
        rw [u3 _ (by omega), o36, o36']
      · obtain ⟨g3, g4⟩ := g
        have m8 := g3.ms m6
        rw [rf_rowMany m8]
        refine hx_bs ?_
        rw [ld_rowMany m8 hi, g3.ar 37 ⟨by decide, by omega, by omega⟩, e37, if_pos c3, if_pos (by omega)]
        refine hx_bs (Hx.ret ⟨((r1.1.tr ra.1).tr r7.1).tr g3.1, (fa.keep r7 (by decide)).keep g3 (by decide), fun _ => sm_iz _, c, g4, RBd.rf rfl⟩)
  · refine Hx.ce (sm_eq (show 1 < 2147483648 by omega) (by omega)) (fun z => absurd z (by omega)) (fun _ => ?_)
    rw [if_neg c1, if_neg (by omega)]
    exact Hx.ret ⟨r1.1.tr r2.1, f2, fun q => (by cases q), c, h1.k0 r2, RBd.rf rfl⟩
def setH (s : Rst) (A : As) (UA DA : List As) : Rst := (s.1, s.2.1, s.2.2.1, s.2.2.2.1, s.2.2.2.2.1, s.2.2.2.2.2.1, s.2.2.2.2.2.2.1, A, UA, DA)
theorem ri_undo {σ : St} {m : Nat} {c : Rct} {s : Rst} (h : RI σ m c s) : Hx (fX12_undo σ m) (fun σ' v => (s.2.2.2.2.2.2.2.2.1 = [] ∧ RV m c s (-1) s σ σ' v) ∨ ∃ UA' q, s.2.2.2.2.2.2.2.2.1 = UA' ++ [q] ∧ RV m c s UA'.length (setH s q UA' (s.2.2.2.2.2.2.2.2.2 ++ [s.2.2.2.2.2.2.2.1])) σ σ' v) := by
  obtain ⟨⟨a1, a2, a3, a4⟩, ⟨b1, b2, b3, b4⟩, ⟨cc, U, D, d1, d2, d3, d4⟩, ⟨e1, e2, e3⟩, f⟩ := id h
  refine (rf_undo a1 d1).mo (fun σ' v g => ?_)
  rcases g with ⟨rfl, rfl, r⟩ | ⟨U', q, rfl, rfl, hH, r⟩
  · refine Or.inl ⟨List.eq_nil_of_length_eq_zero d3.1.symm, r.1, rfl, c, h.k0 r, RBd.rf rfl⟩
  · obtain ⟨UA', A', q1, q2, q3⟩ := d3.init
    have hK : Kp m c.1 c.2.1 c.2.2 σ σ' := Kp.of r (by decide) (fun _ _ _ z => z)
    refine Or.inr ⟨UA', A', q1, r.1, by rw [sm_iz, q2.1], c, ⟨⟨r.ms a1, a2.keep r (by decide) (by decide), a3.keep r (by decide), a4.keep r (by decide) (by decide)⟩, ⟨b1.keep r hK (by decide), b2.keep r hK (by decide), b3.keep r (by decide) (by decide), b4.keep r (by decide) (by decide) (fun _ _ _ z => z)⟩, ⟨q, U', _, hH, q3.kp hK, q2.kp hK, (d4.kp hK).snoc (d2.kp hK)⟩, ⟨e1.keep r (by decide), e2.keep r (by decide), e3.keep r (by decide)⟩, f⟩, RBd.rf rfl⟩
theorem ri_redo {σ : St} {m : Nat} {c : Rct} {s : Rst} (h : RI σ m c s) : Hx (fX12_redo σ m) (fun σ' v => (s.2.2.2.2.2.2.2.2.2 = [] ∧ RV m c s (-1) s σ σ' v) ∨ ∃ DA' q, s.2.2.2.2.2.2.2.2.2 = DA' ++ [q] ∧ RV m c s DA'.length (setH s q (s.2.2.2.2.2.2.2.2.1 ++ [s.2.2.2.2.2.2.2.1]) DA') σ σ' v) := by
  obtain ⟨⟨a1, a2, a3, a4⟩, ⟨b1, b2, b3, b4⟩, ⟨cc, U, D, d1, d2, d3, d4⟩, ⟨e1, e2, e3⟩, f⟩ := id h
  refine (rf_redo (D := U) (U := D) a1 d1).mo (fun σ' v g => ?_)
  rcases g with ⟨rfl, rfl, r⟩ | ⟨D', q, rfl, rfl, hH, r⟩
  · refine Or.inl ⟨List.eq_nil_of_length_eq_zero d4.1.symm, r.1, rfl, c, h.k0 r, RBd.rf rfl⟩
  · obtain ⟨DA', A', q1, q2, q3⟩ := d4.init
    have hK : Kp m c.1 c.2.1 c.2.2 σ σ' := Kp.of r (by decide) (fun _ _ _ z => z)
    refine Or.inr ⟨DA', A', q1, r.1, by rw [sm_iz, q2.1], c, ⟨⟨r.ms a1, a2.keep r (by decide) (by decide), a3.keep r (by decide), a4.keep r (by decide) (by decide)⟩, ⟨b1.keep r hK (by decide), b2.keep r hK (by decide), b3.keep r (by decide) (by decide), b4.keep r (by decide) (by decide) (fun _ _ _ z => z)⟩, ⟨q, _, D', hH, q3.kp hK, (d3.kp hK).snoc (d2.kp hK), q2.kp hK⟩, ⟨e1.keep r (by decide), e2.keep r (by decide), e3.keep r (by decide)⟩, f⟩, RBd.rf rfl⟩
theorem ri_compare {σ : St} {m : Nat} {c : Rct} {s : Rst} {z y : Int} (hz : -2147483648 ≤ z ∧ z < 2147483648) (hy : -2147483648 ≤ y ∧ y < 2147483648) (h : RI σ m c s) : Hx (fX12_compare σ m (iz z) (iz y)) (RO m c s (if (0 ≤ z ∧ z ≤ 9) ∧ 0 ≤ y ∧ y ≤ 9 then 0 else 1) (cmpq (atQ s.2.2.2.2.1 z) (atQ s.2.2.2.2.1 y)) s σ) := by
  rw [n_fX12_compare]
  refine rf_set0 h.1.1 (fun σ1 r1 m1 f0 => ?_)
  have h1 := h.k0 r1
  obtain ⟨q1, q2⟩ := h1.2.1.2.1
  rw [rf_ck m1]
  refine hx_bs ?_
  refine Hx.bd (rf_noSlot hz m1 f0) (fun σ2 v g => ?_)
  rcases g with ⟨c1, rfl, rfl⟩ | ⟨c1, rfl, r2, f2⟩
  · refine Hx.ce rfl (fun _ => ?_) (fun q => absurd rfl q)
    rw [rf_ck m1]
    refine hx_bs ?_
    refine Hx.bd (rf_noSlot hy m1 f0) (fun σ3 v g => ?_)
    rcases g with ⟨c2, rfl, rfl⟩ | ⟨c2, rfl, r2, f2⟩
    · refine Hx.ce rfl (fun _ => ?_) (fun q => absurd rfl q)
      obtain ⟨i, rfl⟩ := Int.eq_ofNat_of_zero_le c1.1
      obtain ⟨j, rfl⟩ := Int.eq_ofNat_of_zero_le c2.1
      have hi : i < s.2.2.2.2.1.length := by omega
      have hj : j < s.2.2.2.2.1.length := by omega
      obtain ⟨vi, u1, u2⟩ := q2 i _ (List.getElem?_eq_getElem hi)
      obtain ⟨vj, u3, u4⟩ := q2 j _ (List.getElem?_eq_getElem hj)
      rw [rf_slot m1]
      refine hx_bs ?_
      rw [← sm_iz, ld_slot m1 (by omega), u1]
      refine hx_bs ?_
      refine hx_bs ?_
      rw [← sm_iz, ld_slot m1 (by omega), u3]
      refine hx_bs ?_
      rw [rf_ck m1]
      refine hx_bs ?_
      obtain ⟨σ4, e4, r4⟩ := rf_order m1 (by have := u2.1; omega) (by have := u4.1; omega) u2.2 u4.2
      rw [e4]
      have r4' : rfM m [] [1, 2] nV σ3 σ4 := r4.M
      rw [if_pos ⟨c1, c2⟩, atQ_of (List.getElem?_eq_getElem hi), atQ_of (List.getElem?_eq_getElem hj)]
      exact hx_cs (Hx.ret ⟨r1.1.tr r4'.1, f0.keep r4' (by decide), fun _ => rfl, c, h1.k12 r4', RBd.rf rfl⟩)
    · refine Hx.ce (sm_eq (show 1 < 2147483648 by omega) (by omega)) (fun z => absurd z (by omega)) (fun _ => ?_)
      rw [n_fX12_compare_21, if_neg (fun z => c2 z.2)]
      exact Hx.ret ⟨r1.1.tr r2.1, f2, fun q => (by cases q), c, h1.k0 r2, RBd.rf rfl⟩
  · refine Hx.ce (sm_eq (show 1 < 2147483648 by omega) (by omega)) (fun z => absurd z (by omega)) (fun _ => ?_)
    rw [n_fX12_compare_21, if_neg (fun z => c1 z.1)]
    exact Hx.ret ⟨r1.1.tr r2.1, f2, fun q => (by cases q), c, h1.k0 r2, RBd.rf rfl⟩
