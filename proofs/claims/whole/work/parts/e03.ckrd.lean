/-! ===== calls of the one that was built: errors: a written fraction is read ===== -/
theorem dgx_0 {y : Nat} (h : y < 10 ^ 59) : y / 10 ^ (dgx y).length = 0 := by
  unfold dgx
  by_cases c : y = 0
  · rw [if_pos c, c, Nat.zero_div]
  · rw [if_neg c]
    refine Classical.byContradiction fun z => ?_
    have h1 := dl_shift (dl y).length y h z
    have h2 : y / 10 ^ (dl y).length < 10 ^ 59 := Nat.lt_of_le_of_lt (Nat.div_le_self _ _) h
    rw [dl_st h2 z, List.length_append, List.length_singleton] at h1
    omega
theorem dgx_pos (y : Nat) : 0 < (dgx y).length := by
  unfold dgx
  by_cases c : y = 0
  · rw [if_pos c]; show 0 < 1; omega
  · rw [if_neg c]
    refine Classical.byContradiction fun z => ?_
    have e : dl y = [] := List.length_eq_zero_iff.mp (by omega)
    unfold dl at e
    have e2 : dlf 60 y = if y = 0 then [] else dlf 59 (y / 10) ++ [y % 10] := rfl
    first
      | (rw [e2, if_neg c] at e; simp at e)
      | (unfold dlf at e; rw [if_neg c] at e; simp at e)
theorem dgx_9 {y i d : Nat} (h : y < 10 ^ 59) (hi : (dgx y)[i]? = some d) : d < 10 := by
  have hl := (List.getElem?_eq_some_iff.mp hi).1
  rw [dgx_get h hl] at hi
  cases hi
  exact Nat.mod_lt _ (by omega)
/-- the digits of a number, read into a Nat -/
theorem cl_rdg {x x0 b bk pa y p T : Nat} {wr : List Nat} {neg sl : Int32} {P : St → Unit → Prop} (hT : wr.length = T) (hT3 : T ≤ 3000) (hy : y < dig30) (hpT : p + (dgx y).length ≤ T) (hch : ∀ j d, (dgx y)[j]? = some d → wr[p + j]? = some (48 + d))
    (hD : (pa = bk + 3 ∧ ∀ i, p ≤ i → i < T → sl ≤ nI i) ∨ (pa = bk + 1 ∧ ∀ i, p ≤ i → i < p + (dgx y).length → ¬ sl ≤ nI i)) : ∀ (k m j : Nat) (σ : St), j + k = (dgx y).length → HP (PX x) σ → KWr σ b wr → FS σ bk → Nt σ pa (y / 10 ^ k) → (∀ σ', cW x (s1 pa) 0 0 σ σ' → Nt σ' pa y → Hx (fX11_readFraction_56 m σ' x0 b bk neg sl (nI (p + (dgx y).length))) P) → Hx (fX11_readFraction_56 (m + k) σ x0 b bk neg sl (nI (p + j))) P := by
  have e36 := dig30_36
  intro k
  induction k with
  | zero =>
    intro m j σ hjk hp hW hF hN hk
    rw [show j = (dgx y).length by omega]
    rw [Nat.pow_zero, Nat.div_one] at hN
    exact hk σ (cW.rf hp) hN
  | succ k ih =>
    intro m j σ hjk hp hW hF hN hk
    have hj : j < (dgx y).length := by omega
    have hg := dgx_get (x := y) (by omega) hj
    have hd9 := dgx_9 (by omega) hg
    have hc := hch j _ hg
    rw [show (dgx y).length - 1 - j = k by omega] at *
    generalize hdd : y / 10 ^ k % 10 = d at *
    have hck := sm_ckK hW.1
    have k8 : sK σ pa = 8 := by obtain ⟨l, n, w, h1, _⟩ := hN; exact h1.1
    have key : Hx (fX11_readFraction_101 (fX11_readFraction_56 (m + k)) σ x0 b bk neg sl (nI (p + j)) pa) P := by
      rw [n_fX11_readFraction_101, hck]
      refine hx_bs ?_
      rw [sbd_at hW hc]
      refine hx_cs ?_
      rw [sm_ckK k8]
      refine hx_bs ?_
      rw [sm_sub (by omega), Nat.add_sub_cancel_left]
      have ev : y / 10 ^ (k + 1) * 10 + d = y / 10 ^ k := by
        rw [Nat.pow_succ, ← Nat.div_div_eq_div_mul, ← hdd]
        omega
      have hle : y / 10 ^ k ≤ y := Nat.div_le_self _ _
      have hs4 : sml (y / 10 ^ k) 4 := Nat.lt_of_le_of_lt hle (Nat.lt_trans hy dig30_bp)
      refine Hx.bd (cw_raise (c := 10) (d := d) hp hN (by omega) (by omega) (by omega) (sml_le (Nat.div_le_self y _) (lt_bp (Nat.lt_trans hy dig30_bp) (by omega))) (by rw [ev]; exact rm_of hN hs4)) (fun σ1 _ g => ?_)
      obtain ⟨hF1, hN1⟩ := g
      rw [ev] at hN1
      rw [n_fX11_readFraction_119, sm_add]
      refine hx_nm ?_
      rw [show p + j + 1 = p + (j + 1) by omega]
      have hb2 := hW.1
      have h101 := hW.2.2.2.1.1
      exact ih m (j + 1) σ1 (by omega) hF1.hp (hW.kW hF1 (fun z => by have z : b = pa := z; rw [z] at hb2; omega) (fun z => by have : sF σ (fid 1 0) b = pa := z; rw [this] at h101; omega)) (hF.kW hF1) hN1 (fun σ' h1 h2 => hk σ' (hF1.tr0 h1 (fun _ _ z => z)) h2)
    rw [show m + (k + 1) = m + k + 1 by omega, n_fX11_readFraction_56, hck]
    refine hx_bs ?_
    rw [sbd_len hW, hT]
    refine hx_cs (Hx.ce (sm_le (by omega) (by omega)) (fun z => absurd z (by omega)) (fun _ => ?_))
    rw [hck]
    refine hx_bs ?_
    rw [sbd_at hW hc]
    refine hx_cs (Hx.ce (sm_eq (by omega) (by omega)) (fun z => absurd z (by omega)) (fun _ => ?_))
    rcases hD with ⟨rfl, hD⟩ | ⟨rfl, hD⟩
    · rw [if_pos (hD _ (by omega) (by omega)), fx_d hF]
      exact hx_bs key
    · rw [if_neg (hD _ (by omega) (by omega)), fx_n hF]
      exact hx_bs key
theorem cx_rdE {x b t neg : Nat} {q : Qv} {σ : St} (hp : HP (PX x) σ) (hx : XS σ x) (hq : qok q) (ht : x + 84 < t) (hF : FS σ t) (hg : ∃ s, Sg σ t s) (hN : Nt σ (t + 1) q.2.1) (hD : Nt σ (t + 3) q.2.2) (hn : neg = if q.1 < 0 then 1 else 0) : Hx (fX11_readFraction_142 σ x t (nI neg)) (fun σ' _ => cW x (sR x t) 0 0 σ σ' ∧ FX σ' t q.1 q.2.1 q.2.2) := by
  have s4 : ∀ {y : Nat}, y < dig30 → sml y 4 := fun h => Nat.lt_trans h dig30_bp
  have hz : ∀ s : Int, (if q.2.1 = 0 then 0 else s) = q.1 → Hx (fX11_readFraction_152 σ x t t (iz s)) (fun σ' _ => cW x (sR x t) 0 0 σ σ' ∧ FX σ' t q.1 q.2.1 q.2.2) := by
    intro s es
    rw [n_fX11_readFraction_152, fx_k hF]
    refine hx_bs ?_
    refine Hx.bd (cf_setSign hp hF hN) (fun σ1 _ g => ?_)
    obtain ⟨hF1, hS1⟩ := g
    rw [es] at hS1
    have hx1 := hx.kW hF1
    rw [show gF σ1 15 16 x = some (x + 18) from hx1.gf 15 16 0 18 (by decide) (by decide)]
    refine hx_bs ?_
    rw [hx1.ck 18 10 (by decide)]
    refine hx_bs ?_
    have hN1 := hN.kW hF1 (by simp only [s1]; omega)
    have hD1 := hD.kW hF1 (by simp only [s1]; omega)
    refine Hx.bd (cr_reduce hF1.hp hx1 ⟨hF.kW hF1, hS1, hN1, hD1⟩ (by omega) (lt_bp (s4 hq.2.2.2.2.1) (by omega)) (lt_bp (s4 hq.2.2.2.2.2) (by omega)) (rm_of hN1 (bp_dvd _ (s4 hq.2.2.2.2.1))) (rm_of hD1 (bp_dvd _ (s4 hq.2.2.2.2.2)))) (fun σ2 _ g => ?_)
    obtain ⟨hF2, hX2⟩ := g
    rw [hq.2.2.2.1, Nat.div_one, Nat.div_one] at hX2
    exact Hx.ret ⟨(hF1.mo (fun r _ hr => by have : r = t := hr; simp only [sR]; omega) (Nat.le_refl _) (Nat.le_refl _)).tr0 hF2 (fun _ _ z => z), hX2⟩
  rw [n_fX11_readFraction_142]
  by_cases c : q.1 < 0
  · rw [if_pos c] at hn
    subst hn
    refine Hx.ce (sm_eq (show 1 < 2147483648 by omega) (by omega)) (fun z => absurd z (by omega)) (fun _ => ?_)
    refine hz (-1) ?_
    have : q.1 = -1 := by rcases hq.1 with z | z | z <;> omega
    rw [if_neg (fun z => by have := hq.2.1.mpr z; omega), this]
  · rw [if_neg c] at hn
    subst hn
    refine Hx.ce (sm_eq (show 0 < 2147483648 by omega) (by omega)) (fun _ => ?_) (fun z => absurd rfl z)
    refine hz 1 ?_
    by_cases c0 : q.2.1 = 0
    · rw [if_pos c0, hq.2.1.mpr c0]
    · have : q.1 = 1 := by
        have : q.1 ≠ 0 := fun z => c0 (hq.2.1.mp z)
        rcases hq.1 with z | z | z <;> omega
      rw [if_neg c0, this]
theorem cod_get {l : List Nat} {j d : Nat} (h : l[j]? = some d) : (cod l)[j]? = some (48 + d) := by
  unfold cod
  rw [List.getElem?_map, h]
  rfl
theorem cx_readFraction {x b t : Nat} {q : Qv} {σ : St} (hp : HP (PX x) σ) (hx : XS σ x) (hq : qok q) (hW : KWr σ b (wrF q)) (hX : ∃ s n d, FX σ t s n d) (ht : x + 84 < t) : Hx (fX11_readFraction σ x b t) (fun σ' _ => cW x (sR x t) 0 0 σ σ' ∧ FX σ' t q.1 q.2.1 q.2.2) := by
  have e36 := dig30_36
  have hn36 : q.2.1 < 10 ^ 36 := by have := hq.2.2.2.2.1; omega
  have hd36 : q.2.2 < 10 ^ 36 := by have := hq.2.2.2.2.2; omega
  have l1 := dgx_len hn36
  have l2 := dgx_len hd36
  have p1 := dgx_pos q.2.1
  generalize hs0 : (if q.1 < 0 then 1 else 0) = s0
  have hsl : (sgW q).length = s0 ∧ s0 ≤ 1 := by
    unfold sgW
    rw [← hs0]
    split
    · exact ⟨rfl, Nat.le_refl _⟩
    · exact ⟨rfl, Nat.zero_le _⟩
  have hT : (wrF q).length = s0 + (dgx q.2.1).length + (if q.2.2 = 1 then 0 else 1 + (dgx q.2.2).length) := by
    unfold wrF
    rw [List.length_append, List.length_append, cod_len, hsl.1]
    split
    · rfl
    · rw [List.length_append, cod_len, List.length_singleton]
  have chN : ∀ j d, (dgx q.2.1)[j]? = some d → (wrF q)[s0 + j]? = some (48 + d) := by
    intro j d h
    have hj := (List.getElem?_eq_some_iff.mp h).1
    unfold wrF
    rw [List.getElem?_append_left (by rw [List.length_append, cod_len, hsl.1]; omega), List.getElem?_append_right (by rw [hsl.1]; omega), hsl.1, Nat.add_sub_cancel_left]
    exact cod_get h
  have hT80 : (wrF q).length ≤ 80 := by rw [hT]; split <;> omega
  have hW9 := hW
  generalize hTT : (wrF q).length = T at *
  obtain ⟨s, n, d, hX⟩ := hX
  have hF := hX.1
  have hck := sm_ckK hW.1
  have b101 := hW.2.2.2.1.1
  have kb := hW.1
  have off : ∀ {σ σ' : St} {S : Nat → Prop}, KWr σ b (wrF q) → cW x S 0 0 σ σ' → (∀ r, S r → sK σ r = 8 ∨ sK σ r = 6) → KWr σ' b (wrF q) := fun h hc hS => h.kW hc (fun z => by have := hS _ z; have := h.1; omega) (fun z => by have := hS _ z; have := h.2.2.2.1.1; omega)
  have h22 : Hx (fX11_readFraction_22 σ x b t (nI s0)) (fun σ' _ => cW x (sR x t) 0 0 σ σ' ∧ FX σ' t q.1 q.2.1 q.2.2) := by
    rw [n_fX11_readFraction_22, hck]
    refine hx_bs ?_
    rw [sbd_len hW, hTT]
    refine hx_cs ?_
    rw [fx_n hF]
    refine hx_bs ?_
    rw [fx_kn hF]
    refine hx_bs ?_
    refine Hx.bd (cw_setSmall hp hX.2.2.1 (by omega)) (fun σ1 _ g => ?_)
    obtain ⟨hF1, hN1⟩ := g
    have fs1 := hF.kW hF1
    have hD1 := hX.2.2.2.kW hF1 (by simp only [s1]; omega)
    have hW1 := off hW hF1 (fun r hr => by have : r = t + 1 := hr; rw [this]; exact Or.inl hF.2.2.1.1)
    have hSg1 : Sg σ1 t s := hX.2.1.kW hF1 (by simp only [s1]; omega)
    rw [fx_d fs1]
    refine hx_bs ?_
    rw [fx_kd fs1]
    refine hx_bs ?_
    refine Hx.bd (cw_setSmall hF1.hp hD1 (by omega)) (fun σ2 _ g => ?_)
    obtain ⟨hF2, hD2⟩ := g
    have fs2 := fs1.kW hF2
    have hN2 := hN1.kW hF2 (by simp only [s1]; omega)
    have hW2 := off hW1 hF2 (fun r hr => by have : r = t + 3 := hr; rw [this]; exact Or.inl fs1.2.2.2.1)
    have hSg2 := hSg1.kW hF2 (by simp only [s1]; omega)
    have hG2 : cW x (sR x t) 0 0 σ σ2 := (hF1.mo (fun r _ hr => by have : r = t + 1 := hr; simp only [sR]; omega) (Nat.le_refl _) (Nat.le_refl _)).tr0 hF2 (fun r _ hr => by have : r = t + 3 := hr; simp only [sR]; omega)
    have hx2 := hx.kW hG2
    have h56 : Hx (fX11_readFraction_56 FU σ2 x b t (nI s0) (nI T) (nI s0)) (fun σ' _ => cW x (sR x t) 0 0 σ σ' ∧ FX σ' t q.1 q.2.1 q.2.2) := by
      have eFU : FU = FU - (dgx q.2.1).length + (dgx q.2.1).length := by unfold FU; omega
      rw [eFU]
      have h0 := dgx_0 (y := q.2.1) (by omega)
      refine cl_rdg (p := s0) (pa := t + 1) hTT (by omega) hq.2.2.2.2.1 (by rw [hT]; split <;> omega) chN (Or.inr ⟨rfl, fun i h1 h2 => ?_⟩) (dgx q.2.1).length (FU - (dgx q.2.1).length) 0 σ2 (by omega) hF2.hp hW2 fs2 (by rw [h0]; exact hN2) (fun σ3 hF3 hN3 => ?_)
      · have hTge : s0 + (dgx q.2.1).length ≤ T := by rw [hT]; split <;> omega
        rw [sm_le (by omega) (by omega)]
        omega
      have fs3 := fs2.kW hF3
      have hD3 := hD2.kW hF3 (by simp only [s1]; omega)
      have hW3 := off hW2 hF3 (fun r hr => by have : r = t + 1 := hr; rw [this]; exact Or.inl fs2.2.2.1.1)
      have hSg3 := hSg2.kW hF3 (by simp only [s1]; omega)
      have hG3 := hG2.tr0 hF3 (fun r _ hr => by have : r = t + 1 := hr; simp only [sR]; omega)
      have hx3 := hx2.kW hF3
      have hck3 := sm_ckK hW3.1
      obtain ⟨m, hm⟩ : ∃ m, FU - (dgx q.2.1).length = m + 1 + 40 := ⟨FU - (dgx q.2.1).length - 41, by unfold FU; omega⟩
      rw [hm, show m + 1 + 40 = m + 40 + 1 by omega, n_fX11_readFraction_56, hck3]
      refine hx_bs ?_
      rw [sbd_len hW3, hTT]
      by_cases c1 : q.2.2 = 1
      · rw [if_pos c1] at hT
        refine hx_cs (Hx.ce (sm_le (by omega) (by omega)) (fun _ => ?_) (fun z => absurd z (by omega)))
        rw [hck3]
        refine hx_bs ?_
        rw [sbd_len hW3, hTT]
        refine hx_cs (Hx.cs (fun _ => ?_) (fun z => absurd rfl z))
        rw [fx_d fs3]
        refine hx_bs ?_
        rw [fx_kd fs3]
        refine hx_bs ?_
        refine Hx.bd (cw_setSmall hF3.hp hD3 (by omega)) (fun σ4 _ g => ?_)
        obtain ⟨hF4, hD4⟩ := g
        rw [← c1] at hD4
        have hN4 := hN3.kW hF4 (by simp only [s1]; omega)
        exact (cx_rdE (b := b) hF4.hp (hx3.kW hF4) hq ht (fs3.kW hF4) ⟨s, hSg3.kW hF4 (by simp only [s1]; omega)⟩ hN4 hD4 hs0.symm).mo (fun σ' _ g => ⟨(hG3.tr0 hF4 (fun r _ hr => by have : r = t + 3 := hr; simp only [sR]; omega)).tr0 g.1 (fun _ _ z => z), g.2⟩)
      · rw [if_neg c1] at hT
        have ch47 : (wrF q)[s0 + (dgx q.2.1).length]? = some 47 := by
          unfold wrF
          rw [List.getElem?_append_right (by rw [List.length_append, cod_len, hsl.1]; omega), List.length_append, cod_len, hsl.1, Nat.sub_self, if_neg c1]
          rfl
        have chD : ∀ j d, (dgx q.2.2)[j]? = some d → (wrF q)[s0 + (dgx q.2.1).length + 1 + j]? = some (48 + d) := by
          intro j d h
          unfold wrF
          rw [List.getElem?_append_right (by rw [List.length_append, cod_len, hsl.1]; omega), List.length_append, cod_len, hsl.1, if_neg c1, show s0 + (dgx q.2.1).length + 1 + j - (s0 + (dgx q.2.1).length) = j + 1 by omega]
          show (47 :: cod (dgx q.2.2))[j + 1]? = some (48 + d)
          rw [List.getElem?_cons_succ]
          exact cod_get h
        refine hx_cs (Hx.ce (sm_le (by omega) (by omega)) (fun z => absurd z (by omega)) (fun _ => ?_))
        rw [hck3]
        refine hx_bs ?_
        rw [sbd_at hW3 ch47]
        refine hx_cs (Hx.cs (fun _ => ?_) (fun z => absurd rfl z))
        rw [n_fX11_readFraction_119, sm_add]
        refine hx_nm ?_
        have h0 := dgx_0 (y := q.2.2) (by omega)
        rw [show m + 40 = m + (40 - (dgx q.2.2).length) + (dgx q.2.2).length by omega]
        refine cl_rdg (p := s0 + (dgx q.2.1).length + 1) (pa := t + 3) hTT (by omega) hq.2.2.2.2.2 (by omega) chD (Or.inl ⟨rfl, fun i h1 h2 => ?_⟩) (dgx q.2.2).length (m + (40 - (dgx q.2.2).length)) 0 σ3 (by omega) hF3.hp hW3 fs3 (by rw [h0]; exact hD3) (fun σ4 hF4 hD4 => ?_)
        · rw [sm_le (by omega) (by omega)]
          omega
        have hN4 := hN3.kW hF4 (by simp only [s1]; omega)
        have hW4 := off hW3 hF4 (fun r hr => by have : r = t + 3 := hr; rw [this]; exact Or.inl fs3.2.2.2.1)
        have hck4 := sm_ckK hW4.1
        rw [show m + (40 - (dgx q.2.2).length) = m + (39 - (dgx q.2.2).length) + 1 by omega, n_fX11_readFraction_56, hck4]
        refine hx_bs ?_
        rw [sbd_len hW4, hTT]
        refine hx_cs (Hx.ce (sm_le (by omega) (by omega)) (fun _ => ?_) (fun z => absurd z (by omega)))
        rw [hck4]
        refine hx_bs ?_
        rw [sbd_len hW4, hTT]
        refine hx_cs (Hx.ce (sm_eq (by omega) (by omega)) (fun z => absurd z (by omega)) (fun _ => ?_))
        exact (cx_rdE (b := b) hF4.hp (hx3.kW hF4) hq ht (fs3.kW hF4) ⟨s, hSg3.kW hF4 (by simp only [s1]; omega)⟩ hN4 hD4 hs0.symm).mo (fun σ' _ g => ⟨(hG3.tr0 hF4 (fun r _ hr => by have : r = t + 3 := hr; simp only [sR]; omega)).tr0 g.1 (fun _ _ z => z), g.2⟩)
    refine Hx.ce (sm_eq (by omega) (by omega)) (fun z => ?_) (fun z => ?_)
    · rw [n_fX11_readFraction_54, z]
      rw [z] at h56
      exact h56
    · have e1 : s0 = 1 := by omega
      rw [n_fX11_readFraction_54, e1]
      rw [e1] at h56
      exact h56
  rw [n_fX11_readFraction, hck]
  refine hx_bs ?_
  rw [sbd_len hW, hTT]
  have hTge : s0 + (dgx q.2.1).length ≤ T := by rw [hT]; split <;> omega
  refine hx_cs (Hx.ce (sm_le (by omega) (by omega)) (fun z => absurd z (by omega)) (fun _ => ?_))
  rw [hck]
  refine hx_bs ?_
  by_cases c : q.1 < 0
  · have e1 : s0 = 1 := by rw [← hs0, if_pos c]
    have ch0 : (wrF q)[0]? = some 45 := by
      unfold wrF sgW
      rw [if_pos c]
      rfl
    rw [sbd_at hW ch0]
    refine hx_cs (Hx.cs (fun _ => ?_) (fun z => absurd rfl z))
    rw [e1] at h22
    exact h22
  · have e1 : s0 = 0 := by rw [← hs0, if_neg c]
    obtain ⟨d0, hd0⟩ := get_some (l := dgx q.2.1) (i := 0) p1
    have h9 := dgx_9 (by omega) hd0
    have ch0 := chN 0 d0 hd0
    rw [e1, Nat.zero_add] at ch0
    rw [sbd_at hW ch0]
    refine hx_cs (Hx.ce (sm_eq (by omega) (by omega)) (fun z => absurd z (by omega)) (fun _ => ?_))
    rw [n_fX11_readFraction_21]
    rw [e1] at h22
    exact h22
