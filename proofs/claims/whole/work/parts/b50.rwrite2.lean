/-! ===== the reference's calls: write, writtenAt ===== -/
theorem n2_fX12_writtenAt (σ : St) (x0 : Nat) (x1 : Int32) : fX12_writtenAt σ x0 x1 = (Option.bind (pI σ 16 0 x0 (nI 0)) fun σ1 => Option.bind (gI σ1 16 78 x0) fun v2 => cb (fX12_in σ1 x1 (nI 0) (v2 - (nI 1))) fun σ3 v4 => Option.bind (ckK σ3 17 x0) fun _ => cb (fX12_fails σ3 x0 v4 (nI 1)) fun σ5 v6 => if v6 = (nI 0) then (Option.bind (gF σ5 16 76 x0) fun v9 => Option.bind (ldI σ5 v9 x1) fun v10 => Option.bind (ckC ((Int32.toUInt32 v10 % 65536).toInt32)) fun _ => some (σ5, (Int32.toUInt32 v10 % 65536).toInt32)) else (some (σ5, (nI 32)))) := rfl
def sgW (q : Qv) : List Nat := if q.1 < 0 then [45] else []
def wrF (q : Qv) : List Nat := sgW q ++ cod (dgx q.2.1) ++ if q.2.2 = 1 then [] else [47] ++ cod (dgx q.2.2)
def wrD (q : Qv) : List Nat := sgW q ++ cod (dgx (q.2.1 / q.2.2)) ++ wdc q.2.2 (ahl q.2.2) (rpt (cory q.2.2)).toNat (q.2.1 % q.2.2)
theorem dlf_9 : ∀ (n y c : Nat), c ∈ dlf n y → c < 10 := by
  intro n
  induction n with
  | zero => intro y c h; cases h
  | succ n ih =>
    intro y c h
    unfold dlf at h
    split at h
    · cases h
    · rcases List.mem_append.mp h with q | q
      · exact ih _ c q
      · rw [List.mem_singleton] at q
        subst q
        exact Nat.mod_lt _ (by omega)
theorem cod_128 {y c : Nat} (h : c ∈ cod (dgx y)) : c < 128 := by
  obtain ⟨d, h1, rfl⟩ := List.mem_map.mp h
  unfold dgx at h1
  split at h1
  · rw [List.mem_singleton] at h1; omega
  · have := dlf_9 _ _ _ h1; omega
theorem dds_128 {d f a : Nat} (hd : 0 < d) : ∀ (n k r c : Nat), r < d → c ∈ dds d f a n k r → c < 128 := by
  intro n
  induction n with
  | zero =>
    intro k r c hr h
    have h : c ∈ (if 0 < a then [93] else []) := h
    split at h
    · rw [List.mem_singleton] at h; omega
    · cases h
  | succ n ih =>
    intro k r c hr h
    have h : c ∈ (if k = f then [91] else []) ++ [48 + r * 10 / d] ++ dds d f a n (k + 1) (r * 10 % d) := h
    rcases List.mem_append.mp h with h | h
    · rcases List.mem_append.mp h with h | h
      · split at h
        · rw [List.mem_singleton] at h; omega
        · cases h
      · rw [List.mem_singleton] at h
        have : r * 10 / d < 10 := Nat.div_lt_of_lt_mul (by omega)
        omega
    · exact ih _ _ c (Nat.mod_lt _ hd) h
theorem wdc_128 {d f a r c : Nat} (hd : 0 < d) (hr : r < d) (h : c ∈ wdc d f a r) : c < 128 := by
  unfold wdc at h
  split at h
  · cases h
  · rcases List.mem_append.mp h with h | h
    · rw [List.mem_singleton] at h; omega
    · exact dds_128 hd _ _ _ c hr h
theorem wrF_ok {q : Qv} (hq : qok q) : (wrF q).length ≤ 80 ∧ ∀ c ∈ wrF q, c < 128 := by
  have h3 := dig30_36
  have l1 := dgx_len (x := q.2.1) (by have := hq.2.2.2.2.1; omega)
  have l2 := dgx_len (x := q.2.2) (by have := hq.2.2.2.2.2; omega)
  constructor
  · unfold wrF sgW
    rw [List.length_append, List.length_append, cod_len]
    have e1 : (if q.1 < 0 then [45] else ([] : List Nat)).length ≤ 1 := by split <;> simp
    have e2 : (if q.2.2 = 1 then [] else [47] ++ cod (dgx q.2.2)).length ≤ 37 := by
      split
      · simp
      · rw [List.length_append, cod_len, List.length_singleton]; omega
    omega
  · intro c h
    unfold wrF sgW at h
    rcases List.mem_append.mp h with h | h
    · rcases List.mem_append.mp h with h | h
      · split at h
        · rw [List.mem_singleton] at h; omega
        · cases h
      · exact cod_128 h
    · split at h
      · cases h
      · rcases List.mem_append.mp h with h | h
        · rw [List.mem_singleton] at h; omega
        · exact cod_128 h
theorem wdc_len (d f a r : Nat) (h : f + a ≤ 100) : (wdc d f a r).length ≤ 202 := by
  unfold wdc
  have := dds_len d f a (f + a) 0 r
  split
  · simp
  · rw [List.length_append, List.length_singleton]; omega
theorem wrD_ok {q : Qv} (hq : qok q) (hfa : ahl q.2.2 + (rpt (cory q.2.2)).toNat ≤ 100) : (wrD q).length ≤ 250 ∧ ∀ c ∈ wrD q, c < 128 := by
  have h3 := dig30_36
  have hdl := Nat.div_le_self q.2.1 q.2.2
  have l1 := dgx_len (x := q.2.1 / q.2.2) (by have := hq.2.2.2.2.1; omega)
  constructor
  · unfold wrD sgW
    rw [List.length_append, List.length_append, cod_len]
    have e1 : (if q.1 < 0 then [45] else ([] : List Nat)).length ≤ 1 := by split <;> simp
    have e2 := wdc_len q.2.2 (ahl q.2.2) (rpt (cory q.2.2)).toNat (q.2.1 % q.2.2) hfa
    omega
  · intro c h
    unfold wrD sgW at h
    rcases List.mem_append.mp h with h | h
    · rcases List.mem_append.mp h with h | h
      · split at h
        · rw [List.mem_singleton] at h; omega
        · cases h
      · exact cod_128 h
    · exact wdc_128 hq.2.2.1 (Nat.mod_lt _ hq.2.2.1) h
def setW (s : Rst) (wr : List Nat) : Rst := (s.1, s.2.1, s.2.2.1, s.2.2.2.1, s.2.2.2.2.1, wr, s.2.2.2.2.2.2)
/-- what is drafted is written -/
theorem rf_write_162 {m : Nat} {D : List Nat} {σ0 : St} (hl : D.length ≤ 300) : ∀ (n k : Nat) (σ : St), D.length - k < n → k ≤ D.length → MS σ m → RDr σ m D → Fi σ m 78 (nI D.length) → rfM m [78] [43] nV σ0 σ → (∀ i c, i < k → D[i]? = some c → sA σ (m + 43) i = nI c) → Hx (fX12_write_162 n σ m (nI k)) (fun σ' v => v = nI D.length ∧ rfM m [78] [43] nV σ0 σ' ∧ Fi σ' m 78 (nI D.length) ∧ ∀ i c, D[i]? = some c → sA σ' (m + 43) i = nI c) := by
  intro n
  induction n with
  | zero => intro k σ h; omega
  | succ n ih =>
    intro k σ hn hk hm hD h78 hR hT
    rw [n_fX12_write_162, fi_g hm hD.1]
    refine hx_bs ?_
    refine Hx.ce (sm_le (by omega) (by omega)) (fun c => ?_) (fun c => ?_)
    · rw [fi_g hm h78]
      exact hx_bs (Hx.ret ⟨rfl, hR, h78, fun i x hi => hT i x (by have := (List.getElem?_eq_some_iff.mp hi).1; omega) hi⟩)
    · have hk2 : k < D.length := by omega
      rw [rf_text hm]
      refine hx_bs ?_
      rw [rf_draft hm]
      refine hx_bs ?_
      rw [ld_draft hm (by omega), hD.2.2 k _ (List.getElem?_eq_getElem hk2)]
      refine hx_bs ?_
      rw [st_text hm (by omega)]
      refine hx_bs ?_
      refine hx_nm ?_
      have w : rfM m [78] [43] nV σ (wA σ (m + 43) k (nI D[k])) := rfM.wA (by simp) (by omega)
      rw [sm_add]
      refine ih (k + 1) _ (by omega) hk2 (w.ms hm) (hD.keep w (by decide) (by decide)) (fi_wA h78) (hR.tr w) (fun i x hi hx => ?_)
      by_cases ci : i = k
      · subst ci
        rw [List.getElem?_eq_getElem hk2] at hx
        cases hx
        exact sA_wA_eq
      · rw [sA_wA_j ci]
        exact hT i x (by omega) hx
theorem ri_write_151 {σ : St} {m : Nat} {c : Rct} {s : Rst} {D : List Nat} (h : RI σ m c s) (hD : RDr σ m D) (hl : D.length ≤ 300) (h128 : ∀ x ∈ D, x < 128) : Hx (fX12_write_151 σ m) (fun σ' v => v = nI D.length ∧ rfM m [78] [43] nV σ σ' ∧ RI σ' m c (setW s D)) := by
  have hm := h.1.1
  rw [n_fX12_write_151, fi_g hm hD.1]
  refine hx_bs ?_
  rw [rf_pI hm]
  refine hx_bs ?_
  have w : rfM m [78] [43] nV σ (wI σ (fid 16 78) m (nI D.length)) := rfM.wI (by simp)
  refine (rf_write_162 (σ0 := σ) hl FU 0 _ (by unfold FU; omega) (by omega) (w.ms hm) (hD.keep w (by decide) (by decide)) fi_wI w (fun i c hi => by omega)).mo (fun σ' v g => ?_)
  obtain ⟨g1, g2, g3, g4⟩ := g
  refine ⟨g1, g2, ?_⟩
  obtain ⟨⟨a1, a2, a3, a4⟩, ⟨b1, b2, b3, b4⟩, d, ⟨e1, e2, e3⟩, f⟩ := h
  have hK : Kp m c.1 c.2.1 c.2.2 σ σ' := Kp.of g2 (by decide) (fun _ _ _ z => z)
  exact ⟨⟨g2.ms a1, a2.keep g2 (by decide) (by decide), a3.keep g2 (by decide), a4.keep g2 (by decide) (by decide)⟩, ⟨b1.keep g2 hK (by decide), b2.keep g2 hK (by decide), ⟨g3, hl, fun i x hx => ⟨g4 i x hx, h128 x (List.mem_of_getElem? hx)⟩⟩, b4.keep g2 (by decide) (by decide) (fun _ _ _ z => z)⟩, d.keep g2 hK (by decide) (by decide), ⟨e1.keep g2 (by decide), e2.keep g2 (by decide), e3.keep g2 (by decide)⟩, f⟩
theorem ri_write_65 {σ : St} {m b : Nat} {c : Rct} {s : Rst} {f a : Nat} (hb : b ≤ 1) (h : RI σ m c s) (hD : RDr σ m (sgW s.2.2.2.1)) (hfa : b = 1 → f = ahl s.2.2.2.1.2.2 ∧ a = (rpt (cory s.2.2.2.1.2.2)).toNat ∧ f + a ≤ 100) : Hx (fX12_write_65 σ m (nI b) (nI f) (nI a)) (fun σ' v => v = nI (if b = 0 then wrF s.2.2.2.1 else wrD s.2.2.2.1).length ∧ rfE m σ σ' ∧ RI σ' m c (setW s (if b = 0 then wrF s.2.2.2.1 else wrD s.2.2.2.1))) := by
  have hm := h.1.1
  obtain ⟨ai, a1, a2⟩ := h.2.1.1
  have hq := a2.2.1
  have hi : ai < 12600 := by have := a2.1; omega
  have hd8 := dig30_lt
  have hd36 := dig30_36
  have hx8 : s.2.2.2.1.2.1 < 10000 ^ 8 := by have := hq.2.2.2.2.1; omega
  have sl : (sgW s.2.2.2.1).length ≤ 1 := by unfold sgW; split <;> simp
  rw [n_fX12_write_65, fi_g hm a1]
  refine hx_bs ?_
  rw [rf_ck hm]
  refine hx_bs ?_
  obtain ⟨σ2, e2, r2, v2⟩ := rf_loads (r := 0) hm (by omega) hi a2.2 0 (by omega)
  rw [e2]
  refine hx_cs ?_
  have m2 := r2.ms hm
  have R2 : rfM m [] [1, 2] nV σ σ2 := r2.M
  rw [fi_g m2 (a1.R r2)]
  refine hx_bs ?_
  rw [rf_ck m2]
  refine hx_bs ?_
  obtain ⟨σ3, e3, r3, v3⟩ := rf_loads (r := 1) m2 (by omega) hi (a2.2.keepM R2 (fun z => z)) 1 (by omega)
  rw [e3]
  refine hx_cs ?_
  have m3 := r3.ms m2
  have R3 : rfM m [] [1, 2] nV σ2 σ3 := r3.M
  have R13 := R2.tr R3
  have v2' : Rv σ3 m 0 s.2.2.2.1.2.1 := Rv.keep (x := s.2.2.2.1.2.1) v2 r3 (by decide)
  have v3' : Rv σ3 m 1 s.2.2.2.1.2.2 := v3
  have hD3 := hD.keep R13 (by decide) (by decide)
  have h3 := h.k12 R13
  by_cases cb0 : b = 0
  · subst cb0
    refine Hx.ce rfl (fun _ => ?_) (fun z => absurd rfl z)
    rw [rf_ck m3]
    refine hx_bs ?_
    refine Hx.bd (rf_writesNumber m3 (by omega) (by have := hq.2.2.2.2.1; omega) v2' hD3 (by omega)) (fun σ4 _ g => ?_)
    obtain ⟨r4, d4⟩ := g
    have m4 := r4.ms m3
    have h4 := h3.kd r4 ⟨by decide, by decide⟩
    have a14 := (a1.keep R13 (by decide)).keep r4 (by decide)
    have l1 := dgx_len (x := s.2.2.2.1.2.1) (by have := hq.2.2.2.2.1; omega)
    have E4 := R13.1.tr r4.1
    rw [fi_g m4 a14]
    refine hx_bs ?_
    rw [rf_ck m4]
    refine hx_bs ?_
    rw [rf_isWhole m4 hi ((a2.2.keepM R13 (fun z => z)).keepM r4 (fun z => z))]
    refine hx_cs ?_
    obtain ⟨k1, k2⟩ := wrF_ok hq
    by_cases c1 : s.2.2.2.1.2.2 = 1
    · rw [if_pos c1]
      refine Hx.ce (sm_eq (show 1 < 2147483648 by omega) (by omega)) (fun z => absurd z (by omega)) (fun _ => ?_)
      have e : wrF s.2.2.2.1 = sgW s.2.2.2.1 ++ cod (dgx s.2.2.2.1.2.1) := by
        unfold wrF
        rw [if_pos c1, List.append_nil]
      rw [e] at k1 k2
      refine (ri_write_151 h4 d4 (by omega) k2).mo (fun σ5 v g => ?_)
      rw [if_pos rfl, e]
      exact ⟨g.1, E4.tr g.2.1.1, g.2.2⟩
    · rw [if_neg c1]
      refine Hx.ce rfl (fun _ => ?_) (fun z => absurd rfl z)
      rw [rf_ck m4]
      refine hx_bs ?_
      refine Hx.bd (rf_writes m4 d4 (by rw [List.length_append, cod_len]; omega)) (fun σ5 _ g => ?_)
      obtain ⟨r5, d5⟩ := g
      have m5 := r5.ms m4
      have h5 := h4.kd r5 ⟨by decide, by decide⟩
      rw [rf_ck m5]
      refine hx_bs ?_
      refine Hx.bd (rf_writesNumber m5 (by omega) (by have := hq.2.2.2.2.2; omega) ((v3'.kM r4 (by decide)).kM r5 (by decide)) d5 (by rw [List.length_append, List.length_append, cod_len, List.length_singleton]; omega)) (fun σ6 _ g => ?_)
      obtain ⟨r6, d6⟩ := g
      have h6 := h5.kd r6 ⟨by decide, by decide⟩
      have e : wrF s.2.2.2.1 = sgW s.2.2.2.1 ++ cod (dgx s.2.2.2.1.2.1) ++ [47] ++ cod (dgx s.2.2.2.1.2.2) := by
        unfold wrF
        rw [if_neg c1, ← List.append_assoc]
      rw [e] at k1 k2
      refine (ri_write_151 h6 d6 (by omega) k2).mo (fun σ7 v g => ?_)
      rw [if_pos rfl, e]
      exact ⟨g.1, ((E4.tr r5.1).tr r6.1).tr g.2.1.1, g.2.2⟩
  · have hb1 : b = 1 := by omega
    subst hb1
    obtain ⟨rfl, rfl, hfa⟩ := hfa rfl
    refine Hx.ce (sm_eq (show 1 < 2147483648 by omega) (by omega)) (fun z => absurd z (by omega)) (fun _ => ?_)
    rw [rf_ck m3]
    refine hx_bs ?_
    obtain ⟨σ4, e4, r4, v4, v5⟩ := rf_divides (a := 0) (b := 1) (u := 8) m3 (by omega) (by omega) (by omega) (by omega) (by omega) hx8 hq.2.2.1 v2' v3'
    rw [e4]
    refine hx_cs ?_
    have m4 := r4.ms m3
    rw [rf_ck m4]
    refine hx_bs ?_
    obtain ⟨σ5, e5, r5, v6⟩ := rf_copies (t := 13) (f := 10) m4 (by omega) (by omega) (by omega) v5
    rw [e5]
    refine hx_cs ?_
    have m5 := r5.ms m4
    rw [rf_ck m5]
    refine hx_bs ?_
    obtain ⟨σ6, e6, r6, v7⟩ := rf_copies (t := 4) (f := 9) m5 (by omega) (by omega) (by omega) (v4.keep r5 (by decide))
    rw [e6]
    refine hx_cs ?_
    have m6 := r6.ms m5
    have R36 : rfM m [] [1, 2] nV σ3 σ6 := r4.M.tr (r5.M.tr r6.M)
    have hdl := Nat.div_le_self s.2.2.2.1.2.1 s.2.2.2.1.2.2
    rw [rf_ck m6]
    refine hx_bs ?_
    refine Hx.bd (rf_writesNumber m6 (by omega) (by have := hq.2.2.2.2.1; omega) v7 (hD3.keep R36 (by decide) (by decide)) (by omega)) (fun σ7 _ g => ?_)
    obtain ⟨r7, d7⟩ := g
    have m7 := r7.ms m6
    rw [rf_ck m7]
    refine hx_bs ?_
    have l1 := dgx_len (x := s.2.2.2.1.2.1 / s.2.2.2.1.2.2) (by have := hq.2.2.2.2.1; omega)
    refine Hx.bd (rf_writesDecimals hfa ⟨hq.2.2.1, hq.2.2.2.2.2⟩ (Nat.mod_lt _ hq.2.2.1) m7 ((v6.keep r6 (by decide)).kM r7 (by decide)) (Rv.kM ((v3'.keep r4 (by decide)).keep r5 (by decide) |>.keep r6 (by decide)) r7 (by decide)) d7 (by rw [List.length_append, cod_len]; omega)) (fun σ8 _ g => ?_)
    obtain ⟨r8, d8⟩ := g
    obtain ⟨k1, k2⟩ := wrD_ok hq hfa
    have h8 := ((h3.k12 R36).kd r7 ⟨by decide, by decide⟩).kd r8 ⟨by decide, by decide⟩
    have e9 : wrD s.2.2.2.1 = sgW s.2.2.2.1 ++ cod (dgx (s.2.2.2.1.2.1 / s.2.2.2.1.2.2)) ++ wdc s.2.2.2.1.2.2 (ahl s.2.2.2.1.2.2) (rpt (cory s.2.2.2.1.2.2)).toNat (s.2.2.2.1.2.1 % s.2.2.2.1.2.2) := rfl
    rw [e9] at k1
    refine (ri_write_151 h8 d8 (by omega) k2).mo (fun σ9 v g => ?_)
    rw [if_neg (by omega)]
    exact ⟨g.1, (((R13.1.tr R36.1).tr r7.1).tr r8.1).tr g.2.1.1, g.2.2⟩
theorem ri_write_42 {σ : St} {m b : Nat} {c : Rct} {s : Rst} {f a : Nat} (hb : b ≤ 1) (h : RI σ m c s) (hfa : b = 1 → f = ahl s.2.2.2.1.2.2 ∧ a = (rpt (cory s.2.2.2.1.2.2)).toNat ∧ f + a ≤ 100) : Hx (fX12_write_42 σ m (nI b) (nI f) (nI a)) (fun σ' v => v = nI (if b = 0 then wrF s.2.2.2.1 else wrD s.2.2.2.1).length ∧ rfE m σ σ' ∧ RI σ' m c (setW s (if b = 0 then wrF s.2.2.2.1 else wrD s.2.2.2.1))) := by
  have hm := h.1.1
  rw [n_fX12_write_42, rf_pI hm]
  refine hx_bs ?_
  have w : rfM m [77] [] nV σ (wI σ (fid 16 77) m (nI 0)) := rfM.wI (by simp)
  have f77 : Fi (wI σ (fid 16 77) m (nI 0)) m 77 (nI 0) := fi_wI
  generalize wI σ (fid 16 77) m (nI 0) = σ1 at w f77 ⊢
  have h1 := h.kd w ⟨by decide, by decide⟩
  have m1 := h1.1.1
  obtain ⟨ai, a1, a2⟩ := h1.2.1.1
  have hs := a2.2.1.sg
  rw [rf_sign m1]
  refine hx_bs ?_
  rw [fi_g m1 a1]
  refine hx_bs ?_
  rw [a2.2.sg m1 (by have := a2.1; omega)]
  refine hx_bs ?_
  rw [show nI 0 = iz 0 from rfl]
  refine Hx.ce (iz_le (by omega) (by omega) (by omega) (by omega)) (fun c1 => ?_) (fun c1 => ?_)
  · have e : sgW s.2.2.2.1 = [] := by unfold sgW; rw [if_neg (by omega)]
    exact (ri_write_65 hb h1 (by rw [e]; exact RDr.nil f77) hfa).mo (fun σ' v g => ⟨g.1, w.1.tr g.2.1, g.2.2⟩)
  · have e : sgW s.2.2.2.1 = [45] := by unfold sgW; rw [if_pos (by omega)]
    rw [rf_ck m1]
    refine hx_bs ?_
    refine Hx.bd (rf_writes m1 (RDr.nil f77) (by show 0 < 1200; omega)) (fun σ2 _ g => ?_)
    exact (ri_write_65 hb (h1.kd g.1 ⟨by decide, by decide⟩) (by rw [e]; exact g.2) hfa).mo (fun σ' v g' => ⟨g'.1, (w.1.tr g.1.1).tr g'.2.1, g'.2.2⟩)
theorem ahl_b {y : Nat} (h : 0 < y) : ahl y ≤ 110 := by
  have h1 := pwf_pos (c := 2) (by omega) 110 y h
  have h2 := pwf_pos (c := 5) (by omega) 110 (twoy y).2 h1.1
  unfold ahl
  split
  · exact h2.2.2
  · exact h1.2.2
theorem rpf_b (c : Nat) : ∀ (n k p : Nat), k + n ≤ 1001 → -1 ≤ rpf c n k p ∧ rpf c n k p ≤ 1000
  | 0, _, _, _ => ⟨Int.le_refl _, by show (-1 : Int) ≤ 1000; omega⟩
  | n + 1, k, p, h => by
    have ih := rpf_b c n (k + 1) (p * 10 % c) (by omega)
    have e : rpf c (n + 1) k p = if p * 10 % c = 1 then (k : Int) else rpf c n (k + 1) (p * 10 % c) := rfl
    rw [e]
    split
    · omega
    · exact ih
theorem rpt_b (c : Nat) : -1 ≤ rpt c ∧ rpt c ≤ 1000 := by
  unfold rpt
  split
  · omega
  · exact rpf_b c 1000 1 1 (by omega)
/-- whether decimals are written -/
def okD (q : Qv) : Prop := rpt (cory q.2.2) ≠ -1 ∧ (ahl q.2.2 : Int) + rpt (cory q.2.2) ≤ 100
theorem ri_write {σ : St} {m b : Nat} {c : Rct} {s : Rst} (hb : b ≤ 1) (h : RI σ m c s) : Hx (fX12_write σ m (nI b)) (fun σ' v => (b = 0 → RV m c s (wrF s.2.2.2.1).length (setW s (wrF s.2.2.2.1)) σ σ' v) ∧ (b = 1 → okD s.2.2.2.1 → RV m c s (wrD s.2.2.2.1).length (setW s (wrD s.2.2.2.1)) σ σ' v) ∧ (b = 1 → ¬ okD s.2.2.2.1 → RV m c s (-1) s σ σ' v)) := by
  rw [n_fX12_write]
  refine rf_set0 h.1.1 (fun σ1 r1 m1 f0 => ?_)
  have h1 := h.k0 r1
  obtain ⟨ai, a1, a2⟩ := h1.2.1.1
  have hi : ai < 12600 := by have := a2.1; omega
  rw [rf_ck m1]
  refine hx_bs ?_
  refine Hx.bd (rf_aheadLength m1 a1 a2.2 hi) (fun σ2 v g => ?_)
  obtain ⟨rfl, r2, _⟩ := g
  have m2 := r2.ms m1
  have h2 := h1.k12 r2
  by_cases cb0 : b = 0
  · subst cb0
    refine Hx.ce rfl (fun _ => ?_) (fun z => absurd rfl z)
    rw [n_fX12_write_22]
    refine Hx.ce rfl (fun _ => ?_) (fun z => absurd rfl z)
    refine (ri_write_42 (b := 0) (a := 0) (by omega) h2 (fun z => by omega)).mo (fun σ3 v g => ⟨fun _ => ⟨(r1.1.tr r2.1).tr g.2.1, by rw [g.1, sm_iz]; rfl, c, g.2.2, RBd.rf rfl⟩, fun z => by omega, fun z => by omega⟩)
  · have hb1 : b = 1 := by omega
    subst hb1
    have n10 : (nI 1 = nI 0) = ((1 : Nat) = 0) := sm_eq (by omega) (by omega)
    refine Hx.ce n10 (fun z => absurd z (by omega)) (fun _ => ?_)
    rw [rf_ck m2]
    refine hx_bs ?_
    refine Hx.bd (rf_repeats m2 (a1.keep r2 (by decide)) (a2.2.keepM r2 (fun z => z)) hi) (fun σ3 v g => ?_)
    obtain ⟨rfl, r3⟩ := g
    have h3 := h2.k12 r3
    have E3 := (r1.1.tr r2.1).tr r3.1
    have b1 := rpt_b (cory s.2.2.2.1.2.2)
    have b2 := ahl_b (y := s.2.2.2.1.2.2) a2.2.1.2.2.1
    rw [n_fX12_write_22]
    refine Hx.ce n10 (fun z => absurd z (by omega)) (fun _ => ?_)
    refine Hx.ce (iz_eq (by omega) (by omega) (by omega) (by omega)) (fun c1 => ?_) (fun c1 => ?_)
    · exact Hx.ret ⟨fun z => by omega, fun _ ok => absurd c1 ok.1, fun _ _ => ⟨E3, rfl, c, h3, RBd.rf rfl⟩⟩
    · have ea : iz (rpt (cory s.2.2.2.1.2.2)) = nI (rpt (cory s.2.2.2.1.2.2)).toNat := by
        rw [sm_iz]
        congr 1
        omega
      rw [ea, sm_add]
      refine Hx.ce (sm_le (by omega) (by omega)) (fun c2 => ?_) (fun c2 => ?_)
      · have ok : okD s.2.2.2.1 := ⟨c1, by omega⟩
        refine (ri_write_42 (b := 1) (by omega) h3 (fun _ => ⟨rfl, rfl, c2⟩)).mo (fun σ4 v g => ⟨fun z => by omega, fun _ _ => ⟨E3.tr g.2.1, by rw [g.1, sm_iz]; rfl, c, g.2.2, RBd.rf rfl⟩, fun _ nk => absurd ok nk⟩)
      · have nk : ¬ okD s.2.2.2.1 := fun ok => c2 (by have := ok.2; omega)
        exact Hx.ret ⟨fun z => by omega, fun _ ok => absurd ok nk, fun _ _ => ⟨E3, rfl, c, h3, RBd.rf rfl⟩⟩
theorem ckC_all : ∀ n, n < 128 → ckC (nI n) = some () := by decide
theorem ckC_ok {n : Nat} (h : n < 128) : ckC (nI n) = some () := ckC_all n h
theorem chr_ok {n : Nat} (h : n < 128) : (Int32.toUInt32 (nI n) % 65536).toInt32 = nI n := by
  apply i32_ext
  show (BitVec.ofNat 32 n) % 65536#32 = BitVec.ofNat 32 n
  apply BitVec.eq_of_toNat_eq
  rw [BitVec.toNat_umod, BitVec.toNat_ofNat, BitVec.toNat_ofNat, Nat.mod_eq_of_lt (show n < 2 ^ 32 by omega), show (65536 % 2 ^ 32 : Nat) = 65536 from rfl, Nat.mod_eq_of_lt (show n < 65536 by omega)]
theorem ri_writtenAt {σ : St} {m : Nat} {c : Rct} {s : Rst} {z : Int} (hz : -2147483648 ≤ z ∧ z < 2147483648) (h : RI σ m c s) : Hx (fX12_writtenAt σ m (iz z)) (RO m c s (if 0 ≤ z ∧ z < s.2.2.2.2.2.1.length then 0 else 1) (atI s.2.2.2.2.2.1 z (fun d => (d : Int))) s σ) := by
  rw [n2_fX12_writtenAt]
  refine rf_set0 h.1.1 (fun σ1 r1 m1 f0 => ?_)
  have h1 := h.k0 r1
  obtain ⟨q4, q5, q6⟩ := h1.2.1.2.2.1
  rw [fi_g m1 q4]
  refine hx_bs ?_
  rw [nI_prz]
  refine rf_tin (code := 1) hz (by omega) m1 f0 (by omega) (fun c1 => ?_) (fun c1 σ2 r2 f2 => ?_)
  · refine Hx.ce rfl (fun _ => ?_) (fun q => absurd rfl q)
    obtain ⟨i, rfl⟩ := Int.eq_ofNat_of_zero_le c1.1
    have hi : i < s.2.2.2.2.2.1.length := by omega
    obtain ⟨u1, u2⟩ := q6 i _ (List.getElem?_eq_getElem hi)
    rw [rf_text m1]
    refine hx_bs ?_
    rw [← sm_iz, ld_text m1 (by omega), u1]
    refine hx_bs ?_
    rw [chr_ok u2, ckC_ok u2]
    refine hx_bs (Hx.ret ⟨r1.1, ?_, fun _ => ?_, c, h1, RBd.rf rfl⟩)
    · rw [if_pos (by omega)]; exact f0
    · rw [atI_of (List.getElem?_eq_getElem hi), sm_iz]
  · refine Hx.ce (sm_eq (show 1 < 2147483648 by omega) (by omega)) (fun z => absurd z (by omega)) (fun _ => ?_)
    have c2 : ¬ (0 ≤ z ∧ z < (s.2.2.2.2.2.1.length : Int)) := by omega
    refine Hx.ret ⟨r1.1.tr r2.1, ?_, fun q => ?_, c, h1.k0 r2, RBd.rf rfl⟩
    · rw [if_neg c2]; exact f2
    · rw [if_neg c2] at q; cases q
