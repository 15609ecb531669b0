theorem ers_get {α : Type} {l : List α} {p j : Nat} : (l.eraseIdx p)[j]? = l[if j < p then j else j + 1]? := by
  rw [List.getElem?_eraseIdx]
  split <;> rfl
theorem ers_len {α : Type} {l : List α} {p : Nat} (h : p < l.length) : (l.eraseIdx p).length = l.length - 1 := by
  rw [List.length_eraseIdx, if_pos h]
theorem cb_without {x b na fa p : Nat} {ns : List NE} {fs : List FE} {σ : St} (hp0 : HP (PX x) σ) (hx : XS σ x) (hQ : SQ σ x) (hB : KBk σ x b na fa ns fs)
    (hw : ∀ e ∈ ns, 0 < e.1 ∧ e.1 < 387420489) (hw2 : ∀ e ∈ fs, 0 < e.1 ∧ e.1 < 387420489) (hp : p < ns.length + fs.length) (hN : Nod (if p < ns.length then ns.eraseIdx p else ns) (if p < ns.length then fs else fs.eraseIdx (p - ns.length))) (hkw : ∀ e ∈ fs, known e.1 = 0) :
    Hx (fX0_without σ b (nI p)) (fun σ' v => cW x s0 100 4 σ σ' ∧ KBook σ' x v (if p < ns.length then ns.eraseIdx p else ns) (if p < ns.length then fs else fs.eraseIdx (p - ns.length))) := by
  have hln := hB.1.2.2
  have hF1 := cW.nw (κ := 5) (n := 0) (w := 4) hp0 (by omega)
  have hB1 := hF1.toB0 hx
  have hK2 := hB.kB hB1 hQ
  obtain ⟨hT1, hT2⟩ := hK2.tl hw hw2
  have k5 : sK (nw 5 0 4 σ) (sz σ) = 5 := if_pos rfl
  obtain ⟨_, en⟩ := hB.2.2.1.1.kB (by omega) hB1 hQ
  obtain ⟨_, ef⟩ := hB.2.2.1.2.kB (by omega) hB1 hQ
  rw [n_fX0_without]
  refine hx_nm (hx_nm ?_)
  rw [(ob_f hK2).1]
  refine hx_bs ?_
  by_cases c : p < ns.length
  · rw [if_pos c] at hN
    rw [if_pos c] at hN
    rw [if_pos c, if_pos c]
    refine Hx.bd (cx_left (cW.rf hF1.hp) hT1 (by rw [List.length_map]; exact c)) (fun σ3 v h => ?_)
    obtain ⟨rfl, hM⟩ := h
    rw [List.length_map] at hM
    have hF3 := hF1.tr hM.1 (fun r _ hr => hr)
    have hB3 := hF3.toB0 hx
    have hK3 := hB.kB hB3 hQ
    obtain ⟨_, ef3⟩ := hB.2.2.1.2.kB (by omega) hB3 hQ
    obtain ⟨g1, g2, g3, g4, g5⟩ := ob_f hK3
    rw [g2]
    refine hx_bs ?_
    rw [g1]
    refine hx_bs ?_
    rw [g3]
    refine hx_bs ?_
    rw [cx_leftM c (by omega)]
    refine hx_cs ?_
    have hku : ns.length - 1 = (ns.eraseIdx p).length := (ers_len c).symm
    have hkr := hM.kr (hx.kW hF1)
    rw [hku] at hkr
    have k53 : sK σ3 (sz σ) = 5 := hM.1.k k5 (by omega)
    rw [sm_ckK k53]
    refine hx_bs ?_
    refine Hx.mo (cx_newBook hx hQ hF3 (Nat.le_refl _) k53 ⟨by omega, hln.2⟩ hkr hK3.2.2.1.2 (fun i e he => ?_) (fun i e he => ?_) hN hkw) (fun σ' v h => ?_)
    · rw [hM.2.2.2.2 i (by rw [hku]; exact (List.getElem?_eq_some_iff.mp he).1)]
      rw [ers_get] at he
      show KTold σ x (sQ (nw 5 0 4 σ) na (if i < p then i else i + 1)) e.1 0 e.2.1 (some e.2.2)
      rw [en]
      exact hB.2.2.2.1 _ e he
    · rw [ef3]
      exact hB.2.2.2.2 i e he
    · obtain ⟨rfl, h1, h2⟩ := h
      exact ⟨h1.mo (fun r _ hr => hr) (by omega) (by omega), ⟨_, _, h2.1⟩, h2.2⟩
  · rw [if_neg c] at hN
    rw [if_neg c] at hN
    rw [if_neg c, if_neg c]
    rw [cx_leftN hT1 (by rw [List.length_map]; omega) (by omega)]
    refine hx_cs ?_
    obtain ⟨g1, g2, g3, g4, g5⟩ := ob_f hK2
    rw [g2]
    refine hx_bs ?_
    rw [g1]
    refine hx_bs ?_
    rw [g3]
    refine hx_bs ?_
    rw [sm_sub (by omega)]
    refine Hx.bd (cx_left (cW.rf hF1.hp) hT2 (p := p - ns.length) (by rw [List.length_map]; omega)) (fun σ3 v h => ?_)
    obtain ⟨rfl, hM⟩ := h
    rw [List.length_map] at hM
    have hF3 := hF1.tr hM.1 (fun r _ hr => hr)
    have hB3 := hF3.toB0 hx
    have hK3 := hB.kB hB3 hQ
    obtain ⟨_, en3⟩ := hB.2.2.1.1.kB (by omega) hB3 hQ
    have hku : fs.length - 1 = (fs.eraseIdx (p - ns.length)).length := (ers_len (by omega)).symm
    have hkr := hM.kr (hx.kW hF1)
    rw [hku] at hkr
    have k53 : sK σ3 (sz σ) = 5 := hM.1.k k5 (by omega)
    rw [sm_ckK k53]
    refine hx_bs ?_
    refine Hx.mo (cx_newBook hx hQ hF3 (Nat.le_refl _) k53 ⟨hln.1, by omega⟩ hK3.2.2.1.1 hkr (fun i e he => ?_) (fun i e he => ?_) hN (fun e he => hkw e (List.mem_of_mem_eraseIdx he))) (fun σ' v h => ?_)
    · rw [en3]
      exact hB.2.2.2.1 i e he
    · rw [hM.2.2.2.2 i (by rw [hku]; exact (List.getElem?_eq_some_iff.mp he).1)]
      rw [ers_get] at he
      show KTold σ x (sQ (nw 5 0 4 σ) fa (if i < p - ns.length then i else i + 1)) e.1 e.2.1 e.2.2 none ∧ 0 < e.2.1
      rw [ef]
      exact hB.2.2.2.2 _ e he
    · obtain ⟨rfl, h1, h2⟩ := h
      exact ⟨h1.mo (fun r _ hr => hr) (by omega) (by omega), ⟨_, _, h2.1⟩, h2.2⟩
