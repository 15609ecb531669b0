/-! ===== the reference's calls: a name's place, dropping ===== -/
/-- how many words come ahead of one -/
def rnk (W : List Nat) (w : Nat) : Nat := (W.filter fun u => decide (wkey u < wkey w)).length
theorem rnk_le (W : List Nat) (w : Nat) : rnk W w ≤ W.length := List.length_filter_le _ _
theorem rf_nameAt_41 {m vm n0 : Nat} {z : Int} {ns : List NE} {fs : List FE} {σ : St} {k28 : St → Nat → Int32 → Int32 → Option (St × Int32)} {P : St → Int32 → Prop} (hz : 0 ≤ z ∧ z < 2147483648) (hm : MS σ m) (hB : Rbk σ m vm ns fs) (hW : ∀ e ∈ ns, wd e.1) (hn0 : n0 < ns.length)
    (h1 : (rnk (ns.map (·.1)) ns[n0].1 : Int) = z → P σ (nI ns[n0].1)) (h2 : ¬ (rnk (ns.map (·.1)) ns[n0].1 : Int) = z → Hx (k28 σ m (iz z) (nI (n0 + 1))) P) :
    ∀ (n x o : Nat), ns.length - o < n → o ≤ ns.length → x ≤ o → x + rnk ((ns.drop o).map (·.1)) ns[n0].1 = rnk (ns.map (·.1)) ns[n0].1 → Hx (fX12_nameAt_41 k28 n σ m (iz z) (nI n0) (nI x) (nI o)) P := by
  have b20 := hB.1.2.1
  obtain ⟨q1, q2, _⟩ := hB.2.1 n0 _ (List.getElem?_eq_getElem hn0)
  intro n
  induction n with
  | zero => intro x o h; omega
  | succ n ih =>
    intro x o hn ho hx he
    rw [n_fX12_nameAt_41, fi_g hm hB.1.1]
    refine hx_bs ?_
    refine Hx.ce (sm_le (by omega) (by omega)) (fun c => ?_) (fun c => ?_)
    · rw [List.drop_of_length_le c] at he
      have he : x + 0 = rnk (ns.map (·.1)) ns[n0].1 := he
      have := rnk_le (ns.map (·.1)) ns[n0].1
      rw [List.length_map] at this
      rw [show nI x = iz (x : Int) from sm_iz x]
      refine Hx.ce (iz_eq (by omega) (by omega) (by omega) (by omega)) (fun c2 => ?_) (fun c2 => ?_)
      · rw [rf_word hm]
        refine hx_bs ?_
        rw [ld_word hm (by omega), q1]
        exact hx_bs (Hx.ret (h1 (by omega)))
      · refine hx_nm ?_
        rw [sm_add]
        exact h2 (by omega)
    · have ho2 : o < ns.length := by omega
      obtain ⟨u1, u2, _⟩ := hB.2.1 o _ (List.getElem?_eq_getElem ho2)
      have w1 := hW _ (List.getElem_mem ho2)
      have w2 := hW _ (List.getElem_mem hn0)
      have k1 := wkey_b w1.2
      have k2 := wkey_b w2.2
      have hd : ns.drop o = ns[o] :: ns.drop (o + 1) := List.drop_eq_getElem_cons ho2
      rw [rf_word hm]
      refine hx_bs ?_
      rw [ld_word hm (by omega), u1]
      refine hx_bs ?_
      rw [rf_orderOf w1.1 w1.2]
      refine hx_cs ?_
      rw [rf_word hm]
      refine hx_bs ?_
      rw [ld_word hm (by omega), q1]
      refine hx_bs ?_
      rw [rf_orderOf w2.1 w2.2]
      refine hx_cs ?_
      rw [hd, List.map_cons] at he
      refine Hx.ce (sm_le (by omega) (by omega)) (fun c2 => ?_) (fun c2 => ?_)
      · rw [n_fX12_nameAt_78]
        refine hx_nm (hx_nm ?_)
        rw [sm_add, sm_add, Nat.add_zero]
        refine ih x (o + 1) (by omega) ho2 (by omega) ?_
        rw [← he]
        unfold rnk
        rw [List.filter_cons_of_neg (by simp; omega)]
      · rw [n_fX12_nameAt_78]
        refine hx_nm (hx_nm ?_)
        rw [sm_add, sm_add]
        refine ih (x + 1) (o + 1) (by omega) ho2 (by omega) ?_
        rw [← he]
        unfold rnk
        rw [List.filter_cons_of_pos (by simp; omega), List.length_cons]
        omega
theorem rf_nameAt_28 {m vm w : Nat} {z : Int} {ns : List NE} {fs : List FE} {σ : St} (hz : 0 ≤ z ∧ z < 2147483648) (hm : MS σ m) (hB : Rbk σ m vm ns fs) (hW : ∀ e ∈ ns, wd e.1) (hu : ∀ e ∈ ns, (rnk (ns.map (·.1)) e.1 : Int) = z → e.1 = w) :
    ∀ (n k : Nat), ns.length - k < n → k ≤ ns.length → (∃ e ∈ ns.drop k, (rnk (ns.map (·.1)) e.1 : Int) = z) → Hx (fX12_nameAt_28 n σ m (iz z) (nI k)) (fun σ' v => σ' = σ ∧ v = nI w) := by
  have b20 := hB.1.2.1
  intro n
  induction n with
  | zero => intro k h; omega
  | succ n ih =>
    intro k hn hk hex
    rw [n_fX12_nameAt_28, fi_g hm hB.1.1]
    refine hx_bs ?_
    refine Hx.ce (sm_le (by omega) (by omega)) (fun c => ?_) (fun c => ?_)
    · exfalso
      rw [List.drop_of_length_le c] at hex
      obtain ⟨e, he, _⟩ := hex
      cases he
    · have hk2 : k < ns.length := by omega
      refine rf_nameAt_41 hz hm hB hW hk2 (fun q => ⟨rfl, by rw [hu _ (List.getElem_mem hk2) q]⟩) (fun q => ?_) FU 0 0 (by unfold FU; omega) (by omega) (by omega) (by rw [Nat.zero_add, List.drop_zero])
      refine ih (k + 1) (by omega) hk2 ?_
      obtain ⟨e, he, h2⟩ := hex
      rw [List.drop_eq_getElem_cons hk2] at he
      rcases List.mem_cons.mp he with rfl | he
      · exact absurd h2 q
      · exact ⟨e, he, h2⟩
theorem ri_nameAt {σ : St} {m w : Nat} {c : Rct} {s : Rst} {z : Int} (hz : -2147483648 ≤ z ∧ z < 2147483648) (hW : ∀ e ∈ s.2.2.2.2.2.2.2.1.1, wd e.1) (hex : 0 ≤ z ∧ z < s.2.2.2.2.2.2.2.1.1.length → (∀ e ∈ s.2.2.2.2.2.2.2.1.1, (rnk (s.2.2.2.2.2.2.2.1.1.map (·.1)) e.1 : Int) = z → e.1 = w) ∧ ∃ e ∈ s.2.2.2.2.2.2.2.1.1, (rnk (s.2.2.2.2.2.2.2.1.1.map (·.1)) e.1 : Int) = z) (h : RI σ m c s) : Hx (fX12_nameAt σ m (iz z)) (RO m c s (if 0 ≤ z ∧ z < s.2.2.2.2.2.2.2.1.1.length then 0 else 1) w s σ) := by
  rw [n_fX12_nameAt]
  refine rf_set0 h.1.1 (fun σ1 r1 m1 f0 => ?_)
  have h1 := h.k0 r1
  have hB := h1.2.2.1.cur.B
  have b20 := hB.1.2.1
  rw [fi_g m1 hB.1.1]
  refine hx_bs ?_
  rw [nI_prz]
  refine rf_tin (code := 1) hz (by omega) m1 f0 (by omega) (fun c1 => ?_) (fun c1 σ2 r2 f2 => ?_)
  · refine Hx.ce rfl (fun _ => ?_) (fun q => absurd rfl q)
    obtain ⟨g1, g2⟩ := hex (by omega)
    refine (rf_nameAt_28 ⟨c1.1, hz.2⟩ m1 hB hW g1 FU 0 (by unfold FU; omega) (by omega) (by rw [List.drop_zero]; exact g2)).mo (fun σ2 v g => ?_)
    obtain ⟨rfl, rfl⟩ := g
    rw [if_pos (by omega)]
    exact ⟨r1.1, f0, fun _ => sm_iz _, c, h1, RBd.rf rfl⟩
  · refine Hx.ce (sm_eq (show 1 < 2147483648 by omega) (by omega)) (fun z => absurd z (by omega)) (fun _ => ?_)
    rw [if_neg (by omega)]
    exact Hx.ret ⟨r1.1.tr r2.1, f2, fun q => (by cases q), c, h1.k0 r2, RBd.rf rfl⟩
/-- three rows move up by one, from a place on -/
def Shf (X Y : Nat → Int32) (t e : Nat) : Prop := (∀ j, j < t → Y j = X j) ∧ (∀ j, t ≤ j → j < e → Y j = X (j + 1)) ∧ ∀ j, e ≤ j → Y j = X j
theorem rf_drop_107 {m t e : Nat} {σ0 : St} {P : St → Int32 → Prop} (he : e + 1 ≤ 30) (hK : ∀ σ, MS σ m → rfM m [] [18, 19, 20] nV σ0 σ → Shf (sA σ0 (m + 18)) (sA σ (m + 18)) t e → Shf (sA σ0 (m + 19)) (sA σ (m + 19)) t e → Shf (sA σ0 (m + 20)) (sA σ (m + 20)) t e → Hx (Option.bind (ckK σ 17 m) fun _ => cb (fX12_changes σ m) fun σ2 v3 => Option.bind (gI σ2 16 40 m) fun v5 => Option.bind (gI σ2 16 41 m) fun v6 => some (σ2, v5 + v6)) P) :
    ∀ (n k : Nat) (σ : St), e - k < n → t ≤ k → k ≤ e → MS σ m → rfM m [] [18, 19, 20] nV σ0 σ → Shf (sA σ0 (m + 18)) (sA σ (m + 18)) t k → Shf (sA σ0 (m + 19)) (sA σ (m + 19)) t k → Shf (sA σ0 (m + 20)) (sA σ (m + 20)) t k → Hx (fX12_drop_107 n σ m (nI e) (nI k)) P := by
  have stp : ∀ (X Y Z : Nat → Int32) (k : Nat), t ≤ k → Shf X Y t k → (∀ j, Z j = if j = k then Y (k + 1) else Y j) → Shf X Z t (k + 1) := by
    intro X Y Z k hk h hz
    refine ⟨fun j hj => ?_, fun j h1 h2 => ?_, fun j hj => ?_⟩
    · rw [hz, if_neg (by omega)]; exact h.1 j hj
    · by_cases c : j = k
      · rw [hz, if_pos c, h.2.2 (k + 1) (by omega), c]
      · rw [hz, if_neg c]; exact h.2.1 j h1 (by omega)
    · rw [hz, if_neg (by omega)]; exact h.2.2 j (by omega)
  intro n
  induction n with
  | zero => intro k σ h; omega
  | succ n ih =>
    intro k σ hn h1 h2 hm hR s1 s2 s3
    rw [n_fX12_drop_107]
    refine Hx.ce (sm_le (by omega) (by omega)) (fun c => ?_) (fun c => ?_)
    · have : k = e := by omega
      subst this
      exact hK σ hm hR s1 s2 s3
    · have hke : k < e := by omega
      rw [rf_word hm]
      refine hx_bs (hx_bs ?_)
      rw [sm_add, ld_word hm (by omega)]
      refine hx_bs ?_
      rw [st_word hm (by omega)]
      refine hx_bs ?_
      obtain ⟨σa, ea⟩ : ∃ s, s = wA σ (m + 18) k (sA σ (m + 18) (k + 1)) := ⟨_, rfl⟩
      have wa : rfM m [] [18] nV σ σa := by rw [ea]; exact rfM.wA (by simp) (by omega)
      rw [← ea]
      have ma := wa.ms hm
      rw [rf_def ma]
      refine hx_bs (hx_bs ?_)
      rw [ld_def ma (by omega)]
      refine hx_bs ?_
      rw [st_def ma (by omega)]
      refine hx_bs ?_
      obtain ⟨σb, eb⟩ : ∃ s, s = wA σa (m + 19) k (sA σa (m + 19) (k + 1)) := ⟨_, rfl⟩
      have wb : rfM m [] [19] nV σa σb := by rw [eb]; exact rfM.wA (by simp) (by omega)
      rw [← eb]
      have mb := wb.ms ma
      rw [rf_valueOf mb]
      refine hx_bs (hx_bs ?_)
      rw [ld_valueOf mb (by omega)]
      refine hx_bs ?_
      rw [st_valueOf mb (by omega)]
      refine hx_bs ?_
      obtain ⟨σc, ec⟩ : ∃ s, s = wA σb (m + 20) k (sA σb (m + 20) (k + 1)) := ⟨_, rfl⟩
      have wc : rfM m [] [20] nV σb σc := by rw [ec]; exact rfM.wA (by simp) (by omega)
      rw [← ec]
      refine hx_nm ?_
      have o18 : ∀ j, sA σc (m + 18) j = if j = k then sA σ (m + 18) (k + 1) else sA σ (m + 18) j := by
        intro j
        rw [wc.ar 18 ⟨by decide, by omega, by omega⟩, wb.ar 18 ⟨by decide, by omega, by omega⟩, ea]
        split
        · rename_i q; rw [q, sA_wA_eq]
        · rename_i q; rw [sA_wA_j q]
      have o19 : ∀ j, sA σc (m + 19) j = if j = k then sA σ (m + 19) (k + 1) else sA σ (m + 19) j := by
        intro j
        rw [wc.ar 19 ⟨by decide, by omega, by omega⟩, eb, wa.ar 19 ⟨by decide, by omega, by omega⟩]
        split
        · rename_i q; rw [q, sA_wA_eq]
        · rename_i q; rw [sA_wA_j q, wa.ar 19 ⟨by decide, by omega, by omega⟩]
      have o20 : ∀ j, sA σc (m + 20) j = if j = k then sA σ (m + 20) (k + 1) else sA σ (m + 20) j := by
        intro j
        rw [ec, wb.ar 20 ⟨by decide, by omega, by omega⟩, wa.ar 20 ⟨by decide, by omega, by omega⟩]
        split
        · rename_i q; rw [q, sA_wA_eq]
        · rename_i q; rw [sA_wA_j q, wb.ar 20 ⟨by decide, by omega, by omega⟩, wa.ar 20 ⟨by decide, by omega, by omega⟩]
      exact ih (k + 1) σc (by omega) (by omega) (by omega) (wc.ms mb) (hR.tr ((wa.mo ⟨by decide, by decide⟩ (fun _ q => q)).tr ((wb.mo ⟨by decide, by decide⟩ (fun _ q => q)).tr (wc.mo ⟨by decide, by decide⟩ (fun _ q => q))))) (stp _ _ _ k h1 s1 o18) (stp _ _ _ k h1 s2 o19) (stp _ _ _ k h1 s3 o20)
