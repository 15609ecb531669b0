/-! ===== calls of the one that was built: errors ===== -/
/-- only numbers of the reckoner's are written of the old -/
theorem KI.frl {σ σ' : St} {x o k c : Nat} {s : Kst} (h : KI σ x o s) (hc : cW x (sLw x) k c σ σ') : KI σ' x o s ∧ cO x k c σ σ' := by
  have hWx := h.2.2.1.2.2
  have k9 := hWx.1.1
  have n9 : ¬ sLw x (x + 9) := fun z => by have := z.1; omega
  have s9 := hc.sam (a := x + 9) (by omega) (Or.inl (by omega)) n9
  have hW : KWx σ' x s.2.2.2.2.2.1 := ⟨hWx.1.kW hc n9 (fun z => by
    have h2 := hWx.2
    have := z.1
    have := z.2
    omega), by rw [s9.2.1]; exact hWx.2⟩
  obtain ⟨h1, h2⟩ := h.fr hc (fun r hr => Or.inl hr) hW
  exact ⟨h1, h2.mo (fun r _ hr => Or.inl (by have := hr.1; have := hr.2; omega)) (Nat.le_refl _) (Nat.le_refl _)⟩
theorem cl_wt {x o b t K C : Nat} {s : Kst} {σ0 : St} (h : KI σ0 x o s) (hb : sz σ0 ≤ b) (ht : sz σ0 ≤ t) : ∀ (n i : Nat) (wr : List Nat) (k c : Nat) (σ : St), 10 - i < n → i ≤ 10 → cW x (sLw x) k c σ0 σ → KWr σ b wr → sz σ0 ≤ sF σ (fid 1 0) b → (∃ s n d, FX σ t s n d) → k + 32 ≤ K + 2 * sN σ (sF σ (fid 1 0) b) → c + 16 ≤ C + sN σ (sF σ (fid 1 0) b) → sN σ (sF σ (fid 1 0) b) ≤ 160 →
    Hx (fX11_wrongTexts_21 n σ x b t (nI 0) (nI i)) (fun σ' v => v = nI 0 ∧ ∃ k' c', cW x (sLw x) k' c' σ0 σ' ∧ k' ≤ K + 288 ∧ c' ≤ C + 144) := by
  have hz0 := h.1.2.1.zz
  intro n
  induction n with
  | zero => intro i wr k c σ hn; omega
  | succ n ih =>
    intro i wr k c σ hn hi hG hW ha hX hk hc hcap
    obtain ⟨h1, _⟩ := h.frl hG
    obtain ⟨e9, e10, hs⟩ := h1.sl
    rw [n_fX11_wrongTexts_21, e9]
    refine hx_bs ?_
    rw [e10]
    refine hx_bs (Hx.ce (sm_le (by omega) (by omega)) (fun _ => Hx.ret ⟨rfl, k, c, hG, by omega, by omega⟩) (fun z => ?_))
    rw [sm_ckK hW.1]
    refine hx_bs ?_
    refine Hx.bd (sbd_clear hG.hp hW) (fun σ1 _ g => ?_)
    obtain ⟨hF1, hW1, eA1⟩ := g
    have hG1 := hG.tr0 hF1 (fun r hr hz => by have : r = b := hz; omega)
    obtain ⟨h2, _⟩ := h.frl hG1
    obtain ⟨e91, e101, hs1⟩ := h2.sl
    have hA1 : sN σ1 (sF σ1 (fid 1 0) b) = sN σ (sF σ (fid 1 0) b) := by
      rw [eA1]
      exact (hF1.2.1.2 _ (hG.hp.1.lt (by rw [hW.2.2.2.1.1]; omega))).2.1
    have hX1 : ∃ s n d, FX σ1 t s n d := by
      obtain ⟨s', n', d', hX⟩ := hX
      have q1 := hX.1.1
      have q2 := hX.1.2.2.1.1
      have q3 := hX.1.2.2.2.1
      have qb := hW.1
      exact ⟨s', n', d', hX.kW hF1 ⟨fun z => by have z : t = b := z; rw [z] at q1; omega, fun z => by have z : t + 1 = b := z; rw [z] at q2; omega, fun z => by have z : t + 3 = b := z; rw [z] at q3; omega⟩⟩
    rw [e91]
    refine hx_bs ?_
    obtain ⟨q, hq, l1, hQ⟩ := hs1 i (by omega)
    rw [l1]
    refine hx_bs ?_
    refine Hx.bd (cx_writeFraction hQ.2.2.1 hW1 hG1.hp hQ.2.2.2) (fun σ2 _ hT => ?_)
    obtain ⟨k2, c2, hF2, hW2, ha2, hk2, hc2, hcap2⟩ := id hT
    have hX2 : ∃ s n d, FX σ2 t s n d := by
      obtain ⟨s', n', d', hX⟩ := hX1
      exact ⟨s', n', d', hT.fx hW1 hX⟩
    have hl80 : (wrF q).length ≤ 80 := by
      have e36 := dig30_36
      have l1 := dgx_len (x := q.2.1) (by have := hQ.2.2.1.2.2.2.2.1; omega)
      have l2 := dgx_len (x := q.2.2) (by have := hQ.2.2.1.2.2.2.2.2; omega)
      have l3 : (sgW q).length ≤ 1 := by
        unfold sgW
        split
        · exact Nat.le_refl _
        · exact Nat.zero_le _
      unfold wrF
      rw [List.length_append, List.length_append, cod_len]
      split
      · rw [List.length_nil]; omega
      · rw [List.length_append, cod_len, List.length_singleton]; omega
    have hz1 := hG1.2.1.1
    have hG2 := hG1.tr hF2 (fun r hr hz => by
      rcases hz with hz | hz
      · omega
      · rw [eA1] at hz; omega)
    have ha2' : sz σ0 ≤ sF σ2 (fid 1 0) b := by
      rcases ha2 with e | e
      · rw [e, eA1]; exact ha
      · omega
    obtain ⟨h3, _⟩ := h.frl hG2
    rw [sm_ckK h3.1.2.1.k0]
    refine hx_bs ?_
    refine Hx.bd (cx_readFraction hG2.hp h3.1.2.1 hQ.2.2.1 hW2 hX2 (by omega)) (fun σ3 _ g => ?_)
    obtain ⟨hF3, hX3⟩ := g
    have hG3 : cW x (sLw x) (k + 0 + k2 + 0) (c + 0 + c2 + 0) σ0 σ3 := hG2.tr hF3 (fun r hr hz => by simp only [sR] at hz; simp only [sLw]; omega)
    obtain ⟨s', n', d', hXt⟩ := hX2
    have q1 := hXt.1.1
    have q2 := hXt.1.2.2.1.1
    have q3 := hXt.1.2.2.2.1
    have qb := hW2.1
    have qa := hW2.2.2.2.1.1
    have hbn : ¬ sR x t b := by
      simp only [sR]
      rintro (z | z | z | z)
      · omega
      · rw [z] at qb; omega
      · rw [z] at qb; omega
      · rw [z] at qb; omega
    have han : ¬ sR x t (sF σ2 (fid 1 0) b) := by
      simp only [sR]
      rintro (z | z | z | z)
      · omega
      · rw [z] at qa; omega
      · rw [z] at qa; omega
      · rw [z] at qa; omega
    have hW3 := hW2.kW hF3 hbn han
    have sb := hF3.sam (a := b) (by omega) (Or.inl (by omega)) hbn
    have eA3 : sF σ3 (fid 1 0) b = sF σ2 (fid 1 0) b := sb.2.1 _
    have eN3 : sN σ3 (sF σ3 (fid 1 0) b) = sN σ2 (sF σ2 (fid 1 0) b) := by
      rw [eA3]
      exact (hF3.2.1.2 _ (hG2.hp.1.lt (by omega))).2.1
    obtain ⟨h4, _⟩ := h.frl hG3
    obtain ⟨e93, e103, hs3⟩ := h4.sl
    rw [e93]
    refine hx_bs ?_
    obtain ⟨q', hq', l3, hQ'⟩ := hs3 i (by omega)
    have eq' : q' = q := by rw [hq] at hq'; exact (Option.some.inj hq').symm
    subst eq'
    rw [l3]
    refine hx_bs ?_
    rw [sm_ckK hX3.1.1]
    refine hx_bs ?_
    have hsg : -1 ≤ q'.1 ∧ q'.1 ≤ 1 := by rcases hQ.2.2.1.1 with z | z | z <;> rw [z] <;> decide
    rw [cf_isSame hX3 hQ'.2.2.2 hsg hsg, if_pos ⟨rfl, rfl, rfl⟩]
    refine hx_cs (Hx.ce (sm_eq (show 1 < 2147483648 by omega) (by omega)) (fun z => absurd z (by omega)) (fun _ => ?_))
    rw [n_fX11_wrongTexts_70, sm_add]
    refine hx_nm (ih (i + 1) (wrF q') _ _ σ3 (by omega) (by omega) hG3 hW3 (by rw [eA3]; exact ha2') ⟨_, _, _, hX3⟩ ?_ ?_ ?_)
    · rw [eN3]; omega
    · rw [eN3]; omega
    · rw [eN3]; omega
/-- a new StringBuilder -/
theorem cx_sbNew {x : Nat} {σ : St} (hp : HP (PX x) σ) {β : Type} {K : St → Unit → Option (St × β)} {P : St → β → Prop} (hk : ∀ σ', cW x s0 20 2 σ σ' → KWr σ' (sz σ) [] → sF σ' (fid 1 0) (sz σ) = sz σ + 1 → sN σ' (sz σ + 1) = 16 → Hx (K σ' ()) P) : Hx (Option.bind (ckK (nw 2 0 4 σ) 2 (sz σ)) fun _ => cb (fJ4_init_da8c8 (nw 2 0 4 σ) (sz σ)) K) P := by
  have hz := hp.z0
  have hF1 := cW.nw (x := x) (κ := 2) (n := 0) (w := 4) hp (by omega)
  have k2 : sK (nw 2 0 4 σ) (sz σ) = 2 := if_pos rfl
  have z1 : sz (nw 2 0 4 σ) = sz σ + 1 := rfl
  have hF2 := cW.nw (x := x) (κ := 101) (n := 16) (w := 16) hF1.hp (by omega)
  have k2' : sK (nw 101 16 16 (nw 2 0 4 σ)) (sz σ) = 2 := (if_neg (by omega)).trans k2
  have e0 : ckP (decide (¬ sz σ = 0)) = some () := by rw [decide_eq_true (show ¬ sz σ = 0 by omega)]; rfl
  rw [sm_ckK k2]
  refine hx_bs ?_
  have eI : fJ4_init_da8c8 (nw 2 0 4 σ) (sz σ) = some (wI (wF (nw 101 16 16 (nw 2 0 4 σ)) (fid 1 0) (sz σ) (sz σ + 1)) (fid 1 1) (sz σ) (nI 0), ()) := by
    apply hx_eq
    rw [n_fJ4_init_da8c8, sm_ckK k2]
    refine hx_bs ?_
    rw [n_fJ5_init_d00df, e0]
    refine hx_bs (Hx.cs (fun z => absurd z (by decide)) (fun _ => ?_)) |> fun h => Hx.bd h (fun σ' _ g => Hx.ret g)
    rw [nwA_k (ti := 1) (m := 16) (by omega)]
    refine hx_bs (hx_nm ?_)
    rw [sm_pF (ci := 1) k2']
    refine hx_bs ?_
    rw [sm_pI (ci := 1) (show sK (wF (nw 101 16 16 (nw 2 0 4 σ)) (fid 1 0) (sz σ) (sz (nw 2 0 4 σ))) (sz σ) = 1 + 1 from k2')]
    exact hx_bs (Hx.ret ⟨rfl, rfl⟩)
  rw [eI]
  refine hx_cs ?_
  have hF3 := (hF1.tr hF2 (fun r _ hr => hr)).wf (f := fid 1 0) (a := sz σ) (v := sz σ + 1) (Or.inl (Nat.le_refl _)) (by omega) (by omega)
  have hF4 := hF3.tr (cWi (f := fid 1 1) (a := sz σ) (v := nI 0) hF3.hp (show sK (nw 101 16 16 (nw 2 0 4 σ)) (sz σ) ≠ 8 by omega) (show sK (nw 101 16 16 (nw 2 0 4 σ)) (sz σ) ≠ 100 by omega)) (S := s0) (fun r hr hz => by have : r = sz σ := hz; omega)
  have eF : sF (wI (wF (nw 101 16 16 (nw 2 0 4 σ)) (fid 1 0) (sz σ) (sz σ + 1)) (fid 1 1) (sz σ) (nI 0)) (fid 1 0) (sz σ) = sz σ + 1 := if_pos ⟨rfl, rfl⟩
  have k101 : sK (wI (wF (nw 101 16 16 (nw 2 0 4 σ)) (fid 1 0) (sz σ) (sz σ + 1)) (fid 1 1) (sz σ) (nI 0)) (sz σ + 1) = 101 := if_pos rfl
  have n16 : sN (wI (wF (nw 101 16 16 (nw 2 0 4 σ)) (fid 1 0) (sz σ) (sz σ + 1)) (fid 1 1) (sz σ) (nI 0)) (sz σ + 1) = 16 := if_pos rfl
  have i3 : sI (wI (wF (nw 101 16 16 (nw 2 0 4 σ)) (fid 1 0) (sz σ) (sz σ + 1)) (fid 1 1) (sz σ) (nI 0)) (fid 1 3) (sz σ) = nI 0 := by
    rw [sI_wI_f (by decide)]
    show (if sz σ = sz σ + 1 then 0 else if sz σ = sz σ then 0 else sI σ (fid 1 3) (sz σ)) = nI 0
    rw [if_neg (by omega), if_pos rfl]
    rfl
  refine hk _ (hF4.mo (fun _ _ z => z) (by omega) (by omega)) ⟨k2', sI_wI_eq, i3, ?_, fun i c hi => by cases hi⟩ eF n16
  rw [eF]
  exact ⟨k101, Nat.zero_le _, by omega, by omega⟩
theorem ki_wrongTexts {x o : Nat} {s : Kst} {σ : St} (h : KI σ x o s) : Hx (fX11_wrongTexts σ x) (fun σ' v => v = nI 0 ∧ KI σ' x o s ∧ cO x 400 200 σ σ') := by
  rw [n_fX11_wrongTexts]
  refine hx_nm (hx_nm (cx_sbNew h.1.1 (fun σ3 hF3 hW3 eF3 n3 => ?_)))
  refine hx_nm (hx_nm ?_)
  have hz3 := hF3.2.1.1
  rw [sm_ckK (show sK (nw 6 0 3 σ3) (sz σ3) = 6 from if_pos rfl)]
  refine hx_bs ?_
  refine Hx.bd (cf_init hF3.hp) (fun σ8 _ g => ?_)
  obtain ⟨hF8, hX8⟩ := g
  have hG : cW x (sLw x) (20 + 15) (2 + 5) σ σ8 := (hF3.tr hF8 (fun _ _ z => z)).mo (fun r _ z => z.elim) (Nat.le_refl _) (Nat.le_refl _)
  have hW8 := hW3.kW hF8 (fun z => z) (fun z => z)
  have sb := hF8.sam (a := sz σ) (by rw [hW3.1]; omega) (Or.inl (by rw [hW3.1]; omega)) (fun z => z)
  have eF8 : sF σ8 (fid 1 0) (sz σ) = sz σ + 1 := (sb.2.1 _).trans eF3
  have k101 := hW3.2.2.2.1.1
  rw [eF3] at k101
  have n8 : sN σ8 (sz σ + 1) = 16 := ((hF8.2.1.2 _ (hF3.hp.1.lt (by omega))).2.1).trans n3
  refine (cl_wt (K := 35) (C := 7) h (Nat.le_refl _) hz3 FU 0 [] 35 7 σ8 (by unfold FU; omega) (by omega) hG hW8 (by rw [eF8]; omega) ⟨_, _, _, hX8⟩ (by rw [eF8, n8]; omega) (by rw [eF8, n8]; omega) (by rw [eF8, n8]; omega)).mo (fun σ' v g => ?_)
  obtain ⟨g1, k', c', g2, g3, g4⟩ := g
  obtain ⟨h1, h2⟩ := h.frl g2
  exact ⟨g1, h1, h2.mo (by omega) (by omega)⟩
theorem ki_errors {x o : Nat} {s : Kst} {A : As} {σ : St} (h : KI σ x o s) (hA : s.2.2.2.2.2.2.2.2[s.2.2.2.2.2.2.2.1]? = some A) (hz : Bkz A) : Hx (fX11_errors σ x) (KV x 400 200 s 0 σ) := by
  rw [n_fX11_errors, sm_ckK h.1.2.1.k0]
  refine hx_bs ?_
  refine Hx.bd (ki_wrongNames h hA hz) (fun σ1 v g => ?_)
  obtain ⟨rfl, h1, O1⟩ := g
  rw [sm_ckK h1.1.2.1.k0]
  refine hx_bs ?_
  refine Hx.bd (ki_wrongPairs h1) (fun σ2 v g => ?_)
  obtain ⟨rfl, h2, O2⟩ := g
  rw [sm_ckK h2.1.2.1.k0]
  refine hx_bs ?_
  refine Hx.bd (ki_wrongTexts h2) (fun σ3 v g => ?_)
  obtain ⟨rfl, h3, O3⟩ := g
  rw [sm_add, sm_add]
  exact Hx.ret ⟨rfl, ⟨o, h3⟩, ((O1.tr O2).tr O3).mo (by omega) (by omega)⟩
