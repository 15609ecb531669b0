theorem thlt_irr {e : Th} : ¬ thlt e e := by
  rintro (h | ⟨_, h⟩) <;> omega
theorem Th_inj {T : List Th} (hso : T.Pairwise thlt) {i j : Nat} {e : Th} (hi : T[i]? = some e) (hj : T[j]? = some e) : i = j := by
  obtain ⟨h1, h2⟩ := List.getElem?_eq_some_iff.mp hi
  obtain ⟨h3, h4⟩ := List.getElem?_eq_some_iff.mp hj
  rw [List.pairwise_iff_getElem] at hso
  rcases Nat.lt_trichotomy i j with h | h | h
  · have := hso i j h1 h3 h
    rw [h2, h4] at this
    exact absurd this thlt_irr
  · exact h
  · have := hso j i h3 h1 h
    rw [h2, h4] at this
    exact absurd this thlt_irr
theorem s2_B {x k c : Nat} {σ σ' : St} (hF : cW x (s2 x (x + 2)) k c σ σ') (hx : XS σ x) : cB x σ σ' :=
  cB.of hF (fun r _ hs => by rcases hs with h | h <;> omega) (fun T hT hs => by rcases hs with h | h <;> rcases hT with g | g | g <;> omega) hx
theorem cx_ring_loop {x b na fa node : Nat} {ns : List NE} {fs : List FE} {e : Th} {σ : St} (hx : XS σ x) (hQ : SQ σ x) (hB : KBk σ x b na fa ns fs) (hU : KUs σ x b (Ths ns fs)) (hN : Nod ns fs) (hso : (Ths ns fs).Pairwise thlt) (he : (Ths ns fs)[node]? = some e) :
    ∀ (m n t : Nat) (σ1 : St) (u : Int32) (lc : List It) (y : Th) (nd : Nat) (rg0 rg : List Int), m < n → t + m ≤ 30 → rngO (Ths ns fs) m lc e = some rg → (Ths ns fs)[nd]? = some y → Bm u (uS (Ths ns fs) lc) → cW x (s2 x (x + 2)) 0 0 σ σ1 → xI [fid 15 7] x σ σ1 → sI σ1 (fid 15 7) x = nI t → (∀ i z, rg0[i]? = some z → sA σ1 (x + 2) i = iz z) → rg0.length = t →
      Hx (fX11_traceRing_18 n σ1 x b (nI node) u (nI nd) (nI t)) (fun σ' _ => cW x (s2 x (x + 2)) 0 0 σ σ' ∧ xI [fid 15 7] x σ σ' ∧ sI σ' (fid 15 7) x = nI (rg0 ++ sgw y :: rg).length ∧ (rg0 ++ sgw y :: rg).length ≤ 30 ∧ ∀ i z, (rg0 ++ sgw y :: rg)[i]? = some z → sA σ' (x + 2) i = iz z) := by
  have hln := hB.1.2.2
  have hTl := Ths_len ns fs
  have hnl := (List.getElem?_eq_some_iff.mp he).1
  intro m
  induction m with
  | zero => intro n t σ1 u lc y nd rg0 rg h1 h2 h3; cases h3
  | succ m ih =>
    intro n t σ1 u lc y nd rg0 rg h1 h2 hrg hy hu hF hI h7 hr0 hl0
    obtain ⟨n, rfl⟩ : ∃ n', n = n' + 1 := ⟨n - 1, by omega⟩
    have hx1 := hx.kW hF
    have hB1 := hB.kB (s2_B hF hx) hQ
    have k0 : sK σ1 x = 15 + 1 := hx1.kd 0 16 (by decide)
    have k2 : sK σ1 (x + 2) = 100 := hx1.kd 2 100 (by decide)
    have n2 : sN σ1 (x + 2) = 30 := hx1.nn 2 30 (by decide)
    have f6 : gF σ1 15 6 x = some (x + 2) := hx1.gf 15 6 0 2 (by decide) (by decide)
    have hF2 := hF.tr0 (cWa (a := x + 2) (j := t) (v := iz (sgw y)) hF.hp k2 (hx1.2.2.2.2 2 (by decide))) (fun r _ hr => Or.inr hr)
    have hF3 := hF2.tr0 (cWi (a := x) (f := fid 15 7) (v := nI (t + 1)) hF2.hp (show sK σ1 x ≠ 8 by omega) (show sK σ1 x ≠ 100 by omega)) (fun r _ hr => Or.inl hr)
    have hB3 := hB.kB (s2_B hF3 hx) hQ
    have hU3 := hU.kB ⟨hB.1.1, hB.1.2.1⟩ (s2_B hF3 hx) hQ
    have hI3 : xI [fid 15 7] x σ (wI (wA σ1 (x + 2) t (iz (sgw y))) (fid 15 7) x (nI (t + 1))) := ⟨fun f hf => by
      simp only [List.mem_cons, List.not_mem_nil, or_false] at hf
      exact (sI_wI_f hf).trans (hI.1 f (by simp only [List.mem_cons, List.not_mem_nil, or_false]; exact hf)), fun f => hI.2 f⟩
    have hA3 : ∀ i z, (rg0 ++ [sgw y])[i]? = some z → sA (wI (wA σ1 (x + 2) t (iz (sgw y))) (fid 15 7) x (nI (t + 1))) (x + 2) i = iz z := by
      intro i z hz
      show sA (wA σ1 (x + 2) t (iz (sgw y))) (x + 2) i = iz z
      by_cases c : i = t
      · subst c
        rw [List.getElem?_append_right (by omega), hl0, Nat.sub_self] at hz
        cases hz
        exact sA_wA_eq
      · have hil : i < rg0.length := by
          have := (List.getElem?_eq_some_iff.mp hz).1
          rw [List.length_append, List.length_singleton] at this
          omega
        rw [List.getElem?_append_left hil] at hz
        rw [sA_wA_j c]
        exact hr0 i z hz
    rw [n_fX11_traceRing_18, f6]
    refine hx_bs ?_
    rw [sm_aln k2 ⟨by omega, by omega⟩, n2]
    refine hx_bs (Hx.ce (sm_le (by omega) (by omega)) (fun c1 => by omega) (fun _ => ?_))
    refine hx_bs ?_
    rw [(sm_gI k0).trans (congrArg some h7)]
    refine hx_bs ?_
    rw [sm_ckK hB1.1.2.1]
    refine hx_bs ?_
    rw [cb_signedWordOf hB1 hy]
    refine hx_cs ?_
    rw [sm_st k2 (by rw [n2]; omega) (by omega)]
    refine hx_bs ?_
    rw [show gI (wA σ1 (x + 2) t (iz (sgw y))) 15 7 x = some (nI t) from (sm_gI k0).trans (congrArg some h7)]
    refine hx_bs ?_
    rw [sm_add, sm_pI (show sK (wA σ1 (x + 2) t (iz (sgw y))) x = 15 + 1 from k0)]
    refine hx_bs ?_
    rw [sm_ckK hB3.1.2.1]
    refine hx_bs ?_
    obtain ⟨o, e1, e2, e3⟩ := cb_firstTowards hU3 hB3.1.2.1 (by omega) hN hso he hu
    rw [e1]
    refine hx_cs ?_
    unfold rngO at hrg
    cases hp : pick (Ths ns fs) lc e with
    | none => rw [hp] at hrg; cases hrg
    | some z =>
      rw [hp] at hrg e2
      have hrg2 : pif (z = e) (some []) ((rngO (Ths ns fs) m z.2.2 e).map (sgw z :: ·)) = some rg := hrg
      cases ho : o with
      | none => rw [ho] at e2; cases e2
      | some i =>
        rw [ho] at e2
        have hi : (Ths ns fs)[i]? = some z := e2
        have hil := (List.getElem?_eq_some_iff.mp hi).1
        rw [thn_nI, Nat.zero_add]
        refine Hx.ce (sm_eq (by omega) (by omega)) (fun c2 => ?_) (fun c2 => ?_)
        · have hze : z = e := by
            rw [c2, he] at hi
            cases hi
            rfl
          rw [pif_p hze] at hrg2
          cases hrg2
          refine Hx.ret ⟨hF3, hI3, ?_, ?_, hA3⟩
          · rw [List.length_append, List.length_singleton, hl0]
            exact sI_wI_eq
          · rw [List.length_append, List.length_singleton, hl0]; omega
        · have hze : z ≠ e := by
            intro h
            subst h
            exact c2 (Th_inj hso hi he)
          rw [pif_n hze] at hrg2
          cases hr2 : rngO (Ths ns fs) m z.2.2 e with
          | none => rw [hr2] at hrg2; cases hrg2
          | some rg2 =>
            rw [hr2] at hrg2
            cases hrg2
            refine Hx.ce (show (nI i = iz (-1)) = False from by
              rw [sm_iz, iz_eq (by omega) (by omega) (by omega) (by omega)]
              exact propext ⟨fun h => by omega, fun h => h.elim⟩) (fun h => h.elim) (fun _ => ?_)
            rw [sm_ckK hB3.1.2.1]
            refine hx_bs ?_
            obtain ⟨v, e4, e5⟩ := cb_directFrom hU3 hB3.1.2.1 (by omega) hi
            rw [e4]
            refine hx_cs (hx_nm ?_)
            refine Hx.mo (ih n (t + 1) _ v z.2.2 z i (rg0 ++ [sgw y]) rg2 (by omega) (by omega) hr2 hi e5 hF3 hI3 sI_wI_eq hA3 (by rw [List.length_append, List.length_singleton, hl0])) (fun σ' _ h => ?_)
            rw [List.append_assoc] at h
            exact h
theorem cx_traceRing {x b na fa node form w wp np : Nat} {ns : List NE} {fs : List FE} {e : Th} {l : List It} {rg : List Int} {σ : St} (hp0 : HP (PX x) σ) (hx : XS σ x) (hQ : SQ σ x) (hB : KBk σ x b na fa ns fs) (hU : KUs σ x b (Ths ns fs)) (hN : Nod ns fs) (hkw : ∀ e ∈ fs, known e.1 = 0) (hso : (Ths ns fs).Pairwise thlt) (he : (Ths ns fs)[node]? = some e) (hL : Ln σ x form w wp np l) (h7 : sI σ (fid 15 7) x = nI 0) (hrg : rngO (Ths ns fs) 30 l e = some rg) :
    Hx (fX11_traceRing σ x b (nI node)) (fun σ' _ => cW x (s2 x (x + 2)) 0 0 σ σ' ∧ xI [fid 15 7] x σ σ' ∧ sI σ' (fid 15 7) x = nI (sgw e :: rg).length ∧ (sgw e :: rg).length ≤ 30 ∧ ∀ i z, (sgw e :: rg)[i]? = some z → sA σ' (x + 2) i = iz z) := by
  obtain ⟨l1, l2, l3, l4, l5, l6⟩ := hL.f hx
  obtain ⟨u, e1, e2⟩ := cb_usedBy hB hL.2.2.2.2 hN hkw
  rw [n_fX11_traceRing, l1]
  refine hx_bs ?_
  rw [l6]
  refine hx_bs ?_
  rw [sm_ckK hB.1.2.1]
  refine hx_bs ?_
  rw [e1]
  refine hx_cs ?_
  exact cx_ring_loop hx hQ hB hU hN hso he 30 FU 0 σ u l e node [] rg (by show 30 < 4294967296; omega) (by omega) hrg he e2 (cW.rf hp0) xI.rf h7 (fun i z h => by cases h) rfl
/-- a line refused ahead of all steps, and what is kept of it -/
theorem cx_isRefusedAhead {x now form w wp np : Nat} {H : List As} {A : As} {l : List It} {σ : St} (hp0 : HP (PX x) σ) (hx : XS σ x) (hQ : SQ σ x) (hH : KHis σ x now H) (hA : H[now]? = some A) (hL : Ln σ x form w wp np l) (hKW : KWs σ x)
    (hN : Nod A.1 A.2.1) (hkw : ∀ e ∈ A.2.1, known e.1 = 0) (hso : (Ths A.1 A.2.1).Pairwise thlt) (hac : Acy (Ths A.1 A.2.1)) (hring : ∀ e, thO A.1 A.2.1 form w = some e → Rch (Ths A.1 A.2.1) l e → ∃ rg, rngO (Ths A.1 A.2.1) 30 l e = some rg) :
    Hx (fX11_isRefusedAhead σ x) (fun σ' v => match rfs A.1 A.2.1 (Ths A.1 A.2.1) form w wp np l with
      | none => σ' = σ ∧ v = nI 0
      | some r => cW x (s2 x (x + 2)) 0 0 σ σ' ∧ xI rfL x σ σ' ∧ v = nI 1 ∧ KRef σ' x r.1 r.2.1 (-1) r.2.2) := by
  obtain ⟨A1, A2, A3⟩ := A
  obtain ⟨pr, hS⟩ := hH.present hx hA
  obtain ⟨b, ra, f0, f1, _, _, _, ⟨⟨na, fa, hB⟩, hU⟩, _⟩ := hS.f
  obtain ⟨l1, l2, l3, l4, l5, l6⟩ := hL.f hx
  have hB : KBk σ x b na fa A1 A2 := hB
  have hU : KUs σ x b (Ths A1 A2) := hU
  have hN : Nod A1 A2 := hN
  have hac : Acy (Ths A1 A2) := hac
  have hso : (Ths A1 A2).Pairwise thlt := hso
  have hkw : ∀ e ∈ A2, known e.1 = 0 := hkw
  have k0 : sK σ x = 16 := hx.kd 0 16 (by decide)
  have hln : A1.length ≤ 20 ∧ A2.length ≤ 10 := hB.1.2.2
  have hTl := Ths_len A1 A2
  obtain ⟨⟨_, q1⟩, ⟨_, q2⟩, ⟨_, q3⟩, ⟨_, q4⟩, q5⟩ := id hL
  have hup : ∀ p, unk A1 A2 l = some p → p ≤ 200 := by
    intro p hp
    refine unk_b (fun it hit => ?_) hp
    obtain ⟨j, hj⟩ := List.getElem?_of_mem hit
    obtain ⟨_, _, _, _, _, _, _, _, _, hi⟩ := q5
    exact (hi j it hj).1.2.2.2.1
  have hrefE : ∀ (why place : Nat), Hx (fX11_refuse σ x (nI why) (nI place)) (fun σ' _ => cW x (s2 x (x + 2)) 0 0 σ σ' ∧ xI rfL x σ σ' ∧ KRef σ' x why place (-1) []) := by
    intro why place
    refine Hx.mo (cx_refuse hp0 hx) (fun σ' _ h => ⟨h.1.mo (fun r _ hr => Or.inl hr) (Nat.le_refl _) (Nat.le_refl _), h.2.1, ?_, ?_, h.2.2.2.2.1, h.2.2.2.2.2, by show 0 ≤ 30; omega, fun i z hz => by cases hz⟩)
    · rw [h.2.2.1, sm_iz]
    · rw [h.2.2.2.1, sm_iz]
  rw [n_fX11_isRefusedAhead, sm_ckK k0]
  refine hx_bs ?_
  rw [pr]
  refine hx_cs ?_
  rw [f0]
  refine hx_bs ?_
  rw [l1]
  refine hx_bs ?_
  rw [l6]
  refine hx_bs ?_
  rw [sm_ckK hB.1.2.1]
  refine hx_bs ?_
  rw [cb_firstUnknown hB q5]
  refine hx_cs ?_
  unfold rfs
  cases hu : unk A1 A2 l with
  | some p =>
    have hp := hup p hu
    refine Hx.ce (show (iz (oi (some p)) = iz (-1)) = False from by
      show (iz ((p : Nat) : Int) = iz (-1)) = False
      rw [iz_eq (by omega) (by omega) (by omega) (by omega)]
      exact propext ⟨fun h => by omega, fun h => h.elim⟩) (fun h => h.elim) (fun _ => ?_)
    rw [sm_ckK k0]
    refine hx_bs ?_
    show Hx (cb (fX11_refuse σ x (nI 1) (iz ((p : Nat) : Int))) _) _
    rw [← sm_iz]
    refine Hx.bd (hrefE 1 p) (fun σ' _ h => ?_)
    exact Hx.ret ⟨h.1, h.2.1, rfl, h.2.2⟩
  | none =>
    refine Hx.cs (fun _ => ?_) (fun c => absurd rfl c)
    rw [l1]
    refine hx_bs ?_
    rw [l2]
    refine hx_bs (Hx.ce (sm_eq (by omega) (by omega)) (fun c1 => ?_) (fun c1 => ?_))
    · simp only [if_pos c1]
      exact Hx.ret ⟨rfl, rfl⟩
    · simp only [if_neg c1]
      refine hx_bs ?_
      rw [l3]
      refine hx_bs (hx_bs ?_)
      rw [l2]
      refine hx_bs ?_
      have h69 : ∀ y, y = (if form = 2 then nI 1 else nI 0) → Hx (fX11_isRefusedAhead_69 σ x b b (nI w) y) (fun σ' v => match pif (tkn A1 A2 (Ths A1 A2) form w np) (some (2, wp, []))
          (match thO A1 A2 form w with
          | none => if (form = 1 ∧ A1.length = 20) ∨ (form ≠ 1 ∧ A2.length = 10) then some (3, wp, []) else none
          | some e => pif (Rch (Ths A1 A2) l e) (some (4, wp, sgw e :: (rngO (Ths A1 A2) 30 l e).getD [])) none) with
        | none => σ' = σ ∧ v = nI 0
        | some r => cW x (s2 x (x + 2)) 0 0 σ σ' ∧ xI rfL x σ σ' ∧ v = nI 1 ∧ KRef σ' x r.1 r.2.1 (-1) r.2.2) := by
        intro y hy
        rw [n_fX11_isRefusedAhead_69, sm_ckK hB.1.2.1]
        refine hx_bs ?_
        rw [hy, cx_node hB (by omega)]
        refine hx_cs ?_
        rw [sm_ckK k0]
        refine hx_bs ?_
        rw [cx_isTaken hx hB hU hL hKW hac]
        refine hx_cs (Hx.ce b01_0 (fun c2 => ?_) (fun c2 => ?_))
        · rw [pif_n c2]
          have hnd := ndO_th (ns := A1) (fs := A2) (form := form) (w := w)
          refine Hx.ce (thn_m1 (fun k hk => by have := ndO_b hk; omega)) (fun c3 => ?_) (fun c3 => ?_)
          · have hth : thO A1 A2 form w = none := by
              rw [← hnd.1, c3]
              rfl
            rw [hth, sm_ckK k0]
            refine hx_bs ?_
            rw [cx_isFull hx hB hL c1]
            refine hx_cs (Hx.ce b01_0 (fun c4 => ?_) (fun c4 => ?_))
            · simp only [if_neg c4]
              rw [n_fX11_isRefusedAhead_125, c3]
              refine Hx.cs (fun _ => Hx.ret ⟨rfl, rfl⟩) (fun c => absurd rfl c)
            · simp only [if_pos (Classical.not_not.mp c4)]
              rw [l1]
              refine hx_bs ?_
              rw [l4]
              refine hx_bs ?_
              rw [sm_ckK k0]
              refine hx_bs ?_
              refine Hx.bd (hrefE 3 wp) (fun σ' _ h => ?_)
              exact Hx.ret ⟨h.1, h.2.1, rfl, h.2.2⟩
          · cases hj : ndO A1 A2 form w with
            | none => exact absurd hj c3
            | some j =>
              obtain ⟨e, he, hth⟩ := hnd.2 j hj
              have hjl := ndO_b hj
              rw [hth, thn_nI, Nat.zero_add, n_fX11_isRefusedAhead_125]
              refine Hx.ce (show (nI j = iz (-1)) = False from by
                rw [sm_iz, iz_eq (by omega) (by omega) (by omega) (by omega)]
                exact propext ⟨fun h => by omega, fun h => h.elim⟩) (fun h => h.elim) (fun _ => ?_)
              rw [l1]
              refine hx_bs ?_
              rw [l6]
              refine hx_bs ?_
              rw [sm_ckK hB.1.2.1]
              refine hx_bs ?_
              obtain ⟨u, e1, e2⟩ := cb_usedBy hB q5 hN hkw
              rw [e1]
              refine hx_cs ?_
              rw [sm_ckK hB.1.2.1]
              refine hx_bs ?_
              rw [cb_leadsTo hU hB.1.2.1 (by omega) hN hso he e2]
              refine hx_cs (Hx.ce b01_0 (fun c4 => ?_) (fun c4 => ?_))
              · simp only [pif_n (fun h => c4 (pick_rch.mpr h))]
                exact Hx.ret ⟨rfl, rfl⟩
              · have hR := pick_rch.mp (Classical.not_not.mp c4)
                obtain ⟨rg, hrg⟩ := hring e hth hR
                simp only [pif_p hR, hrg, Option.getD_some]
                rw [l1]
                refine hx_bs ?_
                rw [l4]
                refine hx_bs ?_
                rw [sm_ckK k0]
                refine hx_bs ?_
                refine Hx.bd (hrefE 4 wp) (fun σ1 _ h => ?_)
                obtain ⟨g1, g2, g3⟩ := h
                have hx1 := hx.kW g1
                have cb1 := s2_B g1 hx
                have hB1 := hB.kB cb1 hQ
                have hQ1 := hQ.st g1 hx (fun r hr => by rcases hr with h | h <;> omega)
                have hL1 := hL.kW g1 hx cb1 hQ (by rintro (h | h) <;> omega)
                rw [sm_ckK (show sK σ1 x = 16 from hx1.kd 0 16 (by decide))]
                refine hx_bs ?_
                refine Hx.bd (cx_traceRing g1.hp hx1 hQ1 hB1 (hU.kB ⟨hB.1.1, hB.1.2.1⟩ cb1 hQ) hN hkw hso he hL1 g3.2.2.2.1 hrg) (fun σ2 _ h => ?_)
                obtain ⟨k1, k2, k3, k4, k5⟩ := h
                refine Hx.ret ⟨g1.tr0 k1 (fun r _ hr => hr), g2.tr k2 (fun f hf => hf) (fun f hf => ?_), rfl, ?_, ?_, ?_, k3, k4, k5⟩
                · simp only [List.mem_cons, List.not_mem_nil, or_false] at hf ⊢
                  exact Or.inr (Or.inr (Or.inr hf))
                · rw [k2.1 _ (by decide)]; exact g3.1
                · rw [k2.1 _ (by decide)]; exact g3.2.1
                · rw [k2.1 _ (by decide)]; exact g3.2.2.1
        · rw [pif_p (Classical.not_not.mp c2)]
          rw [l1]
          refine hx_bs ?_
          rw [l4]
          refine hx_bs ?_
          rw [sm_ckK k0]
          refine hx_bs ?_
          refine Hx.bd (hrefE 2 wp) (fun σ' _ h => ?_)
          exact Hx.ret ⟨h.1, h.2.1, rfl, h.2.2⟩
      refine Hx.ce (sm_eq (by omega) (by omega)) (fun c2 => ?_) (fun c2 => ?_)
      · exact h69 _ (by rw [if_pos c2])
      · exact h69 _ (by rw [if_neg c2])
