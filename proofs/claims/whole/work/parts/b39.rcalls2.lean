/-! ===== the reference's calls: rows of values, undo and redo ===== -/
def upU (A : As) (UA : List As) : List As := (if UA.length = 20 then UA.tail else UA) ++ [A]
/-- a change is written down -/
theorem rh_changed {σ σ7 : St} {m v k d : Nat} {A A' : As} {UA DA : List As} {F B : List Nat} {V : Nat → Prop} (hH : RH σ m v k d A UA DA) (r : rfM m F B V σ σ7) (hm : MS σ7 m) (hF : 72 ∉ F ∧ 73 ∉ F) (hB : 39 ∉ B) (hK : Kp m v k d σ σ7) (hs : Rda (snpR (sA σ7 (m + 38)) 0) (curR σ m)) (hS : Snp σ7 m v k d (curR σ7 m) A') :
    Hx (fX12_changes σ7 m) (fun σ' _ => rfM m [72, 73] [39] nV σ7 σ' ∧ RH σ' m v k d A' (upU A UA) []) := by
  obtain ⟨c, U, D, ⟨h1, ⟨h2, h3⟩, h4, h5, h6⟩, g1, g2, g3⟩ := hH
  refine (rf_changes (s := c) (U := U) hm (by omega) (h2.keep r hF.1) (fun i q hq => ?_) (hs.tr h1)).mo (fun σ' _ g => ?_)
  · rw [r.ar 39 ⟨hB, by omega, by omega⟩]
    exact h5 i q hq
  · obtain ⟨r2, U', hU', f72, f73, hU2⟩ := g
    have hK2 : Kp m v k d σ7 σ' := Kp.of r2 (by decide) (fun _ _ _ z => z)
    have hK3 := hK.tr hK2
    refine ⟨r2, curR σ' m, U', [], ⟨Rda.rf, ⟨f72, f73⟩, ?_, hU2, fun k y hy => (by cases hy)⟩, ?_, ?_, All2.nil⟩
    · rw [hU', List.length_append, List.length_singleton]
      show _ + 0 ≤ 20
      split
      · rw [List.length_tail]; omega
      · omega
    · rw [curR_k r2 (by decide) (by decide)]
      exact hS.kp hK2
    · unfold upU
      rw [hU', g2.1]
      split
      · exact (g2.kp hK3).tail.snoc (g1.kp hK3)
      · exact (g2.kp hK3).snoc (g1.kp hK3)
/-- a row of values lies in the reference -/
def Rw1 (σ : St) (m vm r : Nat) (vs : List Qv) : Prop := sA σ (m + 37) r = nI vs.length ∧ vs.length ≤ 50 ∧ ∀ i q, vs[i]? = some q → ∃ vi, sA σ (m + 36) (50 * r + i) = nI vi ∧ Kv σ m vm vi q
theorem Rw1.keep {σ σ' : St} {m vm r : Nat} {vs : List Qv} {F A : List Nat} {V : Nat → Prop} (h : Rw1 σ m vm r vs) (hR : rfM m F A V σ σ') (hA : 36 ∉ A ∧ 37 ∉ A) (hv : ∀ i, 600 ≤ i → i < vm → ¬ V i) : Rw1 σ' m vm r vs := by
  refine ⟨by rw [hR.ar 37 ⟨hA.2, by omega, by omega⟩]; exact h.1, h.2.1, fun i q hi => ?_⟩
  obtain ⟨vi, h1, h2⟩ := h.2.2 i q hi
  exact ⟨vi, by rw [hR.ar 36 ⟨hA.1, by omega, by omega⟩]; exact h1, h2.keepM hR hv⟩
theorem RH.row {σ : St} {m v k d r : Nat} {A : As} {UA DA : List As} (h : RH σ m v k d A UA DA) (hr : r < 3) : ∃ vs, A.2.2[r]? = some vs ∧ Rw1 σ m v r vs := by
  have hS := h.cur.2.2.2
  have hl := hS.1
  refine ⟨_, List.getElem?_eq_getElem (by omega), ?_⟩
  exact hS.2 r _ (List.getElem?_eq_getElem (by omega))
noncomputable def nlt (q : Qv) (vs : List Qv) : Nat := (vs.filter fun v => decide (cmpq v q < 0)).length
noncomputable def neq (q : Qv) (vs : List Qv) : Nat := (vs.filter fun v => decide (cmpq v q = 0)).length
theorem nlt_le (q : Qv) (vs : List Qv) : nlt q vs ≤ vs.length := List.length_filter_le _ _
theorem neq_le (q : Qv) (vs : List Qv) : neq q vs ≤ vs.length := List.length_filter_le _ _
theorem rf_manyBelow {m vm r ai : Nat} {vs : List Qv} {q : Qv} (hr : r < 3) (hq : qok q) : ∀ (n : Nat) (σ : St) (x k : Nat), vs.length - k < n → k ≤ vs.length → x ≤ k → MS σ m → Rw1 σ m vm r vs → Fi σ m 57 (nI ai) → Kv σ m vm ai q →
    Hx (fX12_manyBelow_4 n σ m (nI r) (nI x) (nI k)) (fun σ' v => v = nI (x + nlt q (vs.drop k)) ∧ rfM m [] [1, 2] nV σ σ') := by
  intro n
  induction n with
  | zero => intro σ x k h; omega
  | succ n ih =>
    intro σ x k hn hk hx hm hR h57 hA
    have hl := hR.2.1
    rw [n_fX12_manyBelow_4, rf_rowMany hm]
    refine hx_bs ?_
    rw [ld_rowMany hm hr, hR.1]
    refine hx_bs ?_
    refine Hx.ce (sm_le (by omega) (by omega)) (fun c => ?_) (fun c => ?_)
    · refine Hx.ret ⟨?_, rfM.rf⟩
      rw [List.drop_of_length_le c]
      rfl
    · have hk2 : k < vs.length := by omega
      obtain ⟨vi, u1, u2⟩ := hR.2.2 k _ (List.getElem?_eq_getElem hk2)
      rw [rf_row hm]
      refine hx_bs ?_
      rw [sm_mul, sm_add, ld_row hm (by omega), u1]
      refine hx_bs ?_
      rw [fi_g hm h57]
      refine hx_bs ?_
      rw [rf_ck hm]
      refine hx_bs ?_
      obtain ⟨σ1, e1, r1⟩ := rf_order hm (by have := u2.1; omega) (by have := hA.1; omega) u2.2 hA.2
      rw [e1]
      refine hx_cs ?_
      have r1' : rfM m [] [1, 2] nV σ σ1 := r1.M
      have hm1 := r1'.ms hm
      have hb := cmpq_b u2.2.1 hA.2.1
      have hd : vs.drop k = vs[k] :: vs.drop (k + 1) := List.drop_eq_getElem_cons hk2
      rw [show nI 0 = iz 0 from rfl]
      refine Hx.ce (iz_le (by omega) (by omega) (by omega) (by omega)) (fun c2 => ?_) (fun c2 => ?_)
      · rw [n_fX12_manyBelow_42]
        refine hx_nm (hx_nm ?_)
        rw [show iz 0 = nI 0 from rfl, sm_add, sm_add, Nat.add_zero]
        refine (ih σ1 x (k + 1) (by omega) hk2 (by omega) hm1 (hR.keep r1' (by decide) (fun _ _ _ z => z)) (h57.keep r1' (by decide)) (hA.keepM r1' (fun _ _ _ z => z))).mo (fun σ2 v g => ⟨?_, r1'.tr g.2⟩)
        rw [g.1, hd]
        unfold nlt
        rw [List.filter_cons_of_neg (by simp; omega)]
      · rw [n_fX12_manyBelow_42]
        refine hx_nm (hx_nm ?_)
        rw [sm_add, sm_add]
        refine (ih σ1 (x + 1) (k + 1) (by omega) hk2 (by omega) hm1 (hR.keep r1' (by decide) (fun _ _ _ z => z)) (h57.keep r1' (by decide)) (hA.keepM r1' (fun _ _ _ z => z))).mo (fun σ2 v g => ⟨?_, r1'.tr g.2⟩)
        rw [g.1, hd]
        unfold nlt
        rw [List.filter_cons_of_pos (by simp; omega), List.length_cons]
        congr 1
        omega
theorem rf_manySame {m vm r ai : Nat} {vs : List Qv} {q : Qv} (hr : r < 3) (hq : qok q) : ∀ (n : Nat) (σ : St) (x k : Nat), vs.length - k < n → k ≤ vs.length → x ≤ k → MS σ m → Rw1 σ m vm r vs → Fi σ m 57 (nI ai) → Kv σ m vm ai q →
    Hx (fX12_manySame_4 n σ m (nI r) (nI x) (nI k)) (fun σ' v => v = nI (x + neq q (vs.drop k)) ∧ rfM m [] [1, 2] nV σ σ') := by
  intro n
  induction n with
  | zero => intro σ x k h; omega
  | succ n ih =>
    intro σ x k hn hk hx hm hR h57 hA
    have hl := hR.2.1
    rw [n_fX12_manySame_4, rf_rowMany hm]
    refine hx_bs ?_
    rw [ld_rowMany hm hr, hR.1]
    refine hx_bs ?_
    refine Hx.ce (sm_le (by omega) (by omega)) (fun c => ?_) (fun c => ?_)
    · refine Hx.ret ⟨?_, rfM.rf⟩
      rw [List.drop_of_length_le c]
      rfl
    · have hk2 : k < vs.length := by omega
      obtain ⟨vi, u1, u2⟩ := hR.2.2 k _ (List.getElem?_eq_getElem hk2)
      rw [rf_row hm]
      refine hx_bs ?_
      rw [sm_mul, sm_add, ld_row hm (by omega), u1]
      refine hx_bs ?_
      rw [fi_g hm h57]
      refine hx_bs ?_
      rw [rf_ck hm]
      refine hx_bs ?_
      obtain ⟨σ1, e1, r1⟩ := rf_order hm (by have := u2.1; omega) (by have := hA.1; omega) u2.2 hA.2
      rw [e1]
      refine hx_cs ?_
      have r1' : rfM m [] [1, 2] nV σ σ1 := r1.M
      have hm1 := r1'.ms hm
      have hb := cmpq_b u2.2.1 hA.2.1
      have hd : vs.drop k = vs[k] :: vs.drop (k + 1) := List.drop_eq_getElem_cons hk2
      rw [show nI 0 = iz 0 from rfl]
      refine Hx.ce (iz_eq (by omega) (by omega) (by omega) (by omega)) (fun c2 => ?_) (fun c2 => ?_)
      · rw [n_fX12_manySame_42]
        refine hx_nm (hx_nm ?_)
        rw [sm_add, sm_add]
        refine (ih σ1 (x + 1) (k + 1) (by omega) hk2 (by omega) hm1 (hR.keep r1' (by decide) (fun _ _ _ z => z)) (h57.keep r1' (by decide)) (hA.keepM r1' (fun _ _ _ z => z))).mo (fun σ2 v g => ⟨?_, r1'.tr g.2⟩)
        rw [g.1, hd]
        unfold neq
        rw [List.filter_cons_of_pos (by simp; omega), List.length_cons]
        congr 1
        omega
      · rw [n_fX12_manySame_42]
        refine hx_nm (hx_nm ?_)
        rw [show iz 0 = nI 0 from rfl, sm_add, sm_add, Nat.add_zero]
        refine (ih σ1 x (k + 1) (by omega) hk2 (by omega) hm1 (hR.keep r1' (by decide) (fun _ _ _ z => z)) (h57.keep r1' (by decide)) (hA.keepM r1' (fun _ _ _ z => z))).mo (fun σ2 v g => ⟨?_, r1'.tr g.2⟩)
        rw [g.1, hd]
        unfold neq
        rw [List.filter_cons_of_neg (by simp; omega)]
/-- a frame of registers alone -/
theorem RI.k12 {σ σ' : St} {m : Nat} {c : Rct} {s : Rst} (h : RI σ m c s) (hR : rfM m [] [1, 2] nV σ σ') : RI σ' m c s := h.keep hR ⟨by decide, by decide⟩ (fun _ _ _ => Or.inl (fun z => z))
/-- the row's values, nothing's row is empty -/
def rowZ (s : Rst) (z : Int) : List Qv := (s.2.2.2.2.2.2.2.1.2.2[z.toNat]?).getD []
theorem rowZ_of {s : Rst} {r : Nat} {vs : List Qv} (h : s.2.2.2.2.2.2.2.1.2.2[r]? = some vs) : rowZ s (r : Int) = vs := by
  unfold rowZ
  rw [Int.toNat_natCast, h]
  rfl
theorem ri_mB {σ : St} {m r : Nat} {c : Rct} {s : Rst} {vs : List Qv} (h : RI σ m c s) (hr : r < 3) (hvs : s.2.2.2.2.2.2.2.1.2.2[r]? = some vs) (hR : Rw1 σ m c.1 r vs) : Hx (fX12_manyBelow σ m (nI r)) (fun σ' v => v = nI (nlt s.2.2.2.1 vs) ∧ rfM m [] [1, 2] nV σ σ') := by
  obtain ⟨ai, a1, a2⟩ := h.2.1.1
  have := hR.2.1
  rw [n_fX12_manyBelow]
  refine (rf_manyBelow hr a2.2.1 FU σ 0 0 (by unfold FU; omega) (by omega) (by omega) h.1.1 hR a1 a2).mo (fun σ' v g => ⟨?_, g.2⟩)
  rw [g.1, Nat.zero_add, List.drop_zero]
theorem ri_mS {σ : St} {m r : Nat} {c : Rct} {s : Rst} {vs : List Qv} (h : RI σ m c s) (hr : r < 3) (hvs : s.2.2.2.2.2.2.2.1.2.2[r]? = some vs) (hR : Rw1 σ m c.1 r vs) : Hx (fX12_manySame σ m (nI r)) (fun σ' v => v = nI (neq s.2.2.2.1 vs) ∧ rfM m [] [1, 2] nV σ σ') := by
  obtain ⟨ai, a1, a2⟩ := h.2.1.1
  have := hR.2.1
  rw [n_fX12_manySame]
  refine (rf_manySame hr a2.2.1 FU σ 0 0 (by unfold FU; omega) (by omega) (by omega) h.1.1 hR a1 a2).mo (fun σ' v g => ⟨?_, g.2⟩)
  rw [g.1, Nat.zero_add, List.drop_zero]
theorem ri_count {σ : St} {m : Nat} {c : Rct} {s : Rst} {z : Int} {b : Int32} (hz : -2147483648 ≤ z ∧ z < 2147483648) (h : RI σ m c s) : Hx (fX12_count σ m (iz z) b) (RO m c s (if 0 ≤ z ∧ z ≤ 2 then 0 else 1) (if b = nI 0 then nlt s.2.2.2.1 (rowZ s z) else neq s.2.2.2.1 (rowZ s z) : Nat) s σ) := by
  rw [n_fX12_count]
  refine rf_set0 h.1.1 (fun σ1 r1 m1 f0 => ?_)
  have h1 := h.k0 r1
  rw [rf_ck m1]
  refine hx_bs ?_
  refine Hx.bd (rf_noRow hz m1 f0) (fun σ2 v g => ?_)
  rcases g with ⟨c1, rfl, rfl⟩ | ⟨c1, rfl, r2, f2⟩
  · refine Hx.ce rfl (fun _ => ?_) (fun q => absurd rfl q)
    obtain ⟨i, rfl⟩ := Int.eq_ofNat_of_zero_le c1.1
    have hi : i < 3 := by omega
    obtain ⟨vs, hvs, hR⟩ := h1.2.2.1.row hi
    rw [rowZ_of hvs, if_pos c1, ← sm_iz]
    refine Hx.ce rfl (fun c2 => ?_) (fun c2 => ?_)
    · rw [rf_ck m1]
      refine hx_bs ?_
      refine Hx.bd (ri_mB h1 hi hvs hR) (fun σ3 v g => ?_)
      obtain ⟨rfl, g2⟩ := g
      exact Hx.ret ⟨r1.1.tr g2.1, f0.keep g2 (by decide), fun _ => by rw [if_pos c2, sm_iz], c, h1.k12 g2, RBd.rf rfl⟩
    · rw [rf_ck m1]
      refine hx_bs ?_
      refine Hx.bd (ri_mS h1 hi hvs hR) (fun σ3 v g => ?_)
      obtain ⟨rfl, g2⟩ := g
      exact Hx.ret ⟨r1.1.tr g2.1, f0.keep g2 (by decide), fun _ => by rw [if_neg c2, sm_iz], c, h1.k12 g2, RBd.rf rfl⟩
  · refine Hx.ce (sm_eq (show 1 < 2147483648 by omega) (by omega)) (fun z => absurd z (by omega)) (fun _ => ?_)
    rw [if_neg c1]
    exact Hx.ret ⟨r1.1.tr r2.1, f2, fun q => (by cases q), c, h1.k0 r2, RBd.rf rfl⟩
def setA (s : Rst) (q : Qv) : Rst := (s.1, s.2.1, s.2.2.1, q, s.2.2.2.2)
theorem ri_takeLeast {σ : St} {m : Nat} {c : Rct} {s : Rst} {z y : Int} (hz : -2147483648 ≤ z ∧ z < 2147483648) (hy : -2147483648 ≤ y ∧ y < 2147483648) (hv : c.1 < 12600) (h : RI σ m c s) : Hx (fX12_takeLeast σ m (iz z) (iz y)) (RO m c s (if 0 ≤ z ∧ z ≤ 2 then if 0 ≤ y ∧ y < (rowZ s z).length then 0 else 2 else 1) (atQ (rowZ s z) y).1 (if 0 ≤ z ∧ z ≤ 2 ∧ 0 ≤ y ∧ y < (rowZ s z).length then setA s (atQ (rowZ s z) y) else s) σ) := by
  rw [n_fX12_takeLeast]
  refine rf_set0 h.1.1 (fun σ1 r1 m1 f0 => ?_)
  have h1 := h.k0 r1
  rw [rf_ck m1]
  refine hx_bs ?_
  refine Hx.bd (rf_noRow hz m1 f0) (fun σ2 v g => ?_)
  rcases g with ⟨c1, rfl, rfl⟩ | ⟨c1, rfl, r2, f2⟩
  · refine Hx.ce rfl (fun _ => ?_) (fun q => absurd rfl q)
    obtain ⟨i, rfl⟩ := Int.eq_ofNat_of_zero_le c1.1
    have hi : i < 3 := by omega
    obtain ⟨vs, hvs, hR⟩ := h1.2.2.1.row hi
    have hl := hR.2.1
    rw [rowZ_of hvs, if_pos c1, ← sm_iz, rf_rowMany m1]
    refine hx_bs ?_
    rw [ld_rowMany m1 hi, hR.1]
    refine hx_bs ?_
    rw [nI_prz]
    refine rf_tin (code := 2) hy (by omega) m1 f0 (by omega) (fun c2 => ?_) (fun c2 σ3 r3 f3 => ?_)
    · refine Hx.ce rfl (fun _ => ?_) (fun q => absurd rfl q)
      obtain ⟨j, rfl⟩ := Int.eq_ofNat_of_zero_le c2.1
      have hj : j < vs.length := by omega
      obtain ⟨vi, u1, u2⟩ := hR.2.2 j _ (List.getElem?_eq_getElem hj)
      rw [rf_row m1]
      refine hx_bs ?_
      rw [← sm_iz, sm_mul, sm_add, ld_row m1 (by omega), u1]
      refine hx_bs ?_
      rw [rf_ck m1]
      refine hx_bs ?_
      refine Hx.bd (ri_becomes h1 hv u2.2 (Or.inr u2.1.2.1)) (fun σ3 v g => ?_)
      obtain ⟨rfl, g1, c', g2, g3, g4⟩ := g
      rw [if_pos (by omega), if_pos (by omega), atQ_of (List.getElem?_eq_getElem hj)]
      exact Hx.ret ⟨r1.1.tr g1.1, f0.keep g1 (by decide), fun _ => rfl, c', g2, RBd.b1 rfl g3.2 g4⟩
    · refine Hx.ce (sm_eq (show 1 < 2147483648 by omega) (by omega)) (fun z => absurd z (by omega)) (fun _ => ?_)
      rw [n_fX12_takeLeast_34, if_neg (by omega), if_neg (by omega)]
      exact Hx.ret ⟨r1.1.tr r3.1, f3, fun q => (by cases q), c, h1.k0 r3, RBd.rf rfl⟩
  · refine Hx.ce (sm_eq (show 1 < 2147483648 by omega) (by omega)) (fun z => absurd z (by omega)) (fun _ => ?_)
    rw [n_fX12_takeLeast_34, if_neg c1, if_neg (by omega)]
    exact Hx.ret ⟨r1.1.tr r2.1, f2, fun q => (by cases q), c, h1.k0 r2, RBd.rf rfl⟩
theorem ri_takeNext {σ : St} {m : Nat} {c : Rct} {s : Rst} {z : Int} (hz : -2147483648 ≤ z ∧ z < 2147483648) (hv : c.1 < 12600) (h : RI σ m c s) : Hx (fX12_takeNext σ m (iz z)) (RO m c s (if 0 ≤ z ∧ z ≤ 2 then if nlt s.2.2.2.1 (rowZ s z) + neq s.2.2.2.1 (rowZ s z) < (rowZ s z).length then 0 else 2 else 1) (neq (atQ (rowZ s z) (nlt s.2.2.2.1 (rowZ s z) + neq s.2.2.2.1 (rowZ s z) : Nat)) (rowZ s z)) (if 0 ≤ z ∧ z ≤ 2 ∧ nlt s.2.2.2.1 (rowZ s z) + neq s.2.2.2.1 (rowZ s z) < (rowZ s z).length then setA s (atQ (rowZ s z) (nlt s.2.2.2.1 (rowZ s z) + neq s.2.2.2.1 (rowZ s z) : Nat)) else s) σ) := by
  rw [n_fX12_takeNext]
  refine rf_set0 h.1.1 (fun σ1 r1 m1 f0 => ?_)
  have h1 := h.k0 r1
  rw [rf_ck m1]
  refine hx_bs ?_
  refine Hx.bd (rf_noRow hz m1 f0) (fun σ2 v g => ?_)
  rcases g with ⟨c1, rfl, rfl⟩ | ⟨c1, rfl, r2, f2⟩
  · refine Hx.ce rfl (fun _ => ?_) (fun q => absurd rfl q)
    obtain ⟨i, rfl⟩ := Int.eq_ofNat_of_zero_le c1.1
    have hi : i < 3 := by omega
    obtain ⟨vs, hvs, hR⟩ := h1.2.2.1.row hi
    have hl := hR.2.1
    have q1 := nlt_le s.2.2.2.1 vs
    have q2 := neq_le s.2.2.2.1 vs
    rw [rowZ_of hvs, if_pos c1, ← sm_iz, rf_ck m1]
    refine hx_bs ?_
    refine Hx.bd (ri_mB h1 hi hvs hR) (fun σ3 v g => ?_)
    obtain ⟨rfl, g2⟩ := g
    have h3 := h1.k12 g2
    have hR3 := hR.keep g2 (by decide) (fun _ _ _ z => z)
    rw [rf_ck h3.1.1]
    refine hx_bs ?_
    refine Hx.bd (ri_mS h3 hi hvs hR3) (fun σ4 v g => ?_)
    obtain ⟨rfl, g3⟩ := g
    have h4 := h3.k12 g3
    have hR4 := hR3.keep g3 (by decide) (fun _ _ _ z => z)
    have m4 := h4.1.1
    have f4 := (f0.keep g2 (by decide)).keep g3 (by decide)
    have E4 := (r1.1.tr g2.1).tr g3.1
    refine hx_nm ?_
    rw [sm_add, rf_rowMany m4]
    refine hx_bs ?_
    rw [ld_rowMany m4 hi, hR4.1]
    refine hx_bs ?_
    refine Hx.ce (sm_le (by omega) (by omega)) (fun c2 => ?_) (fun c2 => ?_)
    · rw [n_fX12_takeNext_43, rf_ck m4]
      refine hx_bs ?_
      refine Hx.bd (rf_fails0 m4 f4 (show 0 < 2 by omega) (by omega)) (fun σ5 v g => ?_)
      obtain ⟨rfl, r5, f5⟩ := g
      refine Hx.ce (sm_eq (show 1 < 2147483648 by omega) (by omega)) (fun z => absurd z (by omega)) (fun _ => ?_)
      rw [if_neg (by omega), if_neg (by omega)]
      exact Hx.ret ⟨E4.tr r5.1, f5, fun q => (by cases q), c, h4.k0 r5, RBd.rf rfl⟩
    · rw [n_fX12_takeNext_43, rf_ck m4]
      refine hx_bs ?_
      rw [rf_fails1 m4 f4]
      refine hx_cs (Hx.ce rfl (fun _ => ?_) (fun q => absurd rfl q))
      have hj : nlt s.2.2.2.1 vs + neq s.2.2.2.1 vs < vs.length := by omega
      obtain ⟨vi, u1, u2⟩ := hR4.2.2 _ _ (List.getElem?_eq_getElem hj)
      rw [rf_row m4]
      refine hx_bs ?_
      rw [sm_mul, sm_add, ld_row m4 (by omega), u1]
      refine hx_bs ?_
      rw [rf_ck m4]
      refine hx_bs ?_
      refine Hx.bd (ri_becomes h4 hv u2.2 (Or.inr u2.1.2.1)) (fun σ5 v g => ?_)
      obtain ⟨rfl, g5, c', g6, g7, g8⟩ := g
      have hR5 := hR4.keep g5 (by decide) (fun i h1 h2 z => by omega)
      rw [rf_ck g6.1.1]
      refine hx_bs ?_
      have hR6 : Rw1 σ5 m c'.1 i vs := ⟨hR5.1, hR5.2.1, fun i q hi => by
        obtain ⟨vi, v1, v2⟩ := hR5.2.2 i q hi
        exact ⟨vi, v1, v2.up g7.1 g6.2.2.2.2.2.1⟩⟩
      refine Hx.bd (ri_mS g6 hi hvs hR6) (fun σ6 v g => ?_)
      obtain ⟨rfl, g9⟩ := g
      rw [if_pos hj, if_pos (by omega), atQ_of (List.getElem?_eq_getElem hj)]
      exact Hx.ret ⟨(E4.tr g5.1).tr g9.1, (f4.keep g5 (by decide)).keep g9 (by decide), fun _ => sm_iz _, c', g6.k12 g9, RBd.b1 rfl g7.2 g8⟩
  · refine Hx.ce (sm_eq (show 1 < 2147483648 by omega) (by omega)) (fun z => absurd z (by omega)) (fun _ => ?_)
    rw [if_neg c1, if_neg (by omega)]
    exact Hx.ret ⟨r1.1.tr r2.1, f2, fun q => (by cases q), c, h1.k0 r2, RBd.rf rfl⟩
