/-! ===== the class' states ===== -/
/-- names, functions, rows of values -/
abbrev As := List NE × List FE × List (List Qv)
def KSt (σ : St) (x s : Nat) (A : As) : Prop := (x + 84 < s ∧ sK σ s = 12 ∧ A.2.2.length = 3) ∧ ∃ b ra, (sF σ (fid 11 0) s = b ∧ sF σ (fid 11 1) s = ra) ∧ KBook σ x b A.1 A.2.1 ∧ KR σ x 105 ra 3 ∧ ∀ i vs, A.2.2[i]? = some vs → KRow σ x (sQ σ ra i) vs
theorem KSt.kB {x s : Nat} {A : As} {σ σ' : St} (h : KSt σ x s A) (hR : cB x σ σ') (hQ : SQ σ x) : KSt σ' x s A := by
  obtain ⟨⟨h1, h2, h3⟩, b, ra, ⟨g1, g2⟩, hb, k1, hi⟩ := h
  have hs := hR.sam hQ h1 (by omega) (by omega) (Or.inl (by omega))
  obtain ⟨q1, e1⟩ := k1.kB (by omega) hR hQ
  refine ⟨⟨h1, hR.kd h2 (by omega), h3⟩, b, ra, ⟨by rw [hs.2.1]; exact g1, by rw [hs.2.1]; exact g2⟩, hb.kB hR hQ, q1, fun i vs hv => ?_⟩
  rw [e1]
  exact (hi i vs hv).kB hR hQ
theorem KSt.f {σ : St} {x s : Nat} {A : As} (h : KSt σ x s A) : ∃ b ra, gF σ 11 0 s = some b ∧ gF σ 11 1 s = some ra ∧ aln σ ra = some (nI 3) ∧ sK σ ra = 105 ∧ sN σ ra = 3 ∧ KBook σ x b A.1 A.2.1 ∧ KR σ x 105 ra 3 ∧ ∀ i vs, A.2.2[i]? = some vs → ldQ σ 5 ra (nI i) = some (sQ σ ra i) ∧ KRow σ x (sQ σ ra i) vs := by
  obtain ⟨⟨h1, h2, h3⟩, b, ra, ⟨g1, g2⟩, hb, k1, hi⟩ := h
  refine ⟨b, ra, (sm_gF h2).trans (congrArg some g1), (sm_gF h2).trans (congrArg some g2), (sm_aln k1.2.1 ⟨by omega, by omega⟩).trans (by rw [k1.2.2]), k1.2.1, k1.2.2, hb, k1, fun i vs hv => ?_⟩
  have hl := (List.getElem?_eq_some_iff.mp hv).1
  exact ⟨ldQ_ok (ti := 5) k1.2.1 (by rw [k1.2.2]; omega) (by omega), hi i vs hv⟩
/-- a state made -/
def stN (σ : St) (b ra : Nat) : St := wF (wF (nw 12 0 2 σ) (fid 11 0) (sz σ) b) (fid 11 1) (sz σ) ra
theorem st_k {σ : St} : sK (nw 12 0 2 σ) (sz σ) = 12 := by
  show (if sz σ = sz σ then 12 else sK σ (sz σ)) = 12
  rw [if_pos rfl]
theorem stN_W {x b ra k c : Nat} {σ0 σ : St} (h : cW x s0 k c σ0 σ) : cW x s0 (k + 2) (c + 1) σ0 (stN σ b ra) := by
  have g1 := h.tr (cW.nw (κ := 12) (n := 0) (w := 2) h.hp (by omega)) (fun r _ hr => hr)
  have g2 := g1.wf (a := sz σ) (f := fid 11 0) (v := b) (Or.inl h.2.1.1) (by rw [st_k]; omega) (by rw [st_k]; omega)
  have e : sK (wF (nw 12 0 2 σ) (fid 11 0) (sz σ) b) (sz σ) = 12 := st_k
  exact g2.wf (a := sz σ) (f := fid 11 1) (v := ra) (Or.inl h.2.1.1) (by rw [e]; omega) (by rw [e]; omega)
theorem cx_stateInit {b ra : Nat} {σ : St} (h0 : sz σ ≠ 0) : fX7_init_ (nw 12 0 2 σ) (sz σ) b ra = some (stN σ b ra, ()) := by
  have e0 : ckP (decide (¬ sz σ = 0)) = some () := by rw [decide_eq_true h0]; rfl
  have e1 : sK (nw 12 0 2 σ) (sz σ) = 11 + 1 := st_k
  have e2 : sK (wF (nw 12 0 2 σ) (fid 11 0) (sz σ) b) (sz σ) = 11 + 1 := st_k
  rw [n_fX7_init_, e0]
  show Option.bind (pF (nw 12 0 2 σ) 11 0 (sz σ) b) _ = _
  rw [sm_pF e1]
  show Option.bind (pF (wF (nw 12 0 2 σ) (fid 11 0) (sz σ) b) 11 1 (sz σ) ra) _ = _
  rw [sm_pF e2]
  rfl
theorem stN_S {x b ra : Nat} {A : As} {σ : St} (hp0 : HP (PX x) σ) (hx : XS σ x) (hQ : SQ σ x) (hl : A.2.2.length = 3) (hb : KBook σ x b A.1 A.2.1) (hr : KR σ x 105 ra 3) (hi : ∀ i vs, A.2.2[i]? = some vs → KRow σ x (sQ σ ra i) vs) : KSt (stN σ b ra) x (sz σ) A := by
  have hz := hx.z
  have hB := (stN_W (b := b) (ra := ra) (cW.rf hp0)).toB0 hx
  obtain ⟨q1, e1⟩ := hr.kB (by omega) hB hQ
  have e : sK (stN σ b ra) (sz σ) = 12 := st_k
  have f0 : sF (stN σ b ra) (fid 11 0) (sz σ) = b := by
    unfold stN
    rw [sF_wF_f (by decide), sF_wF_eq]
  have f1 : sF (stN σ b ra) (fid 11 1) (sz σ) = ra := by
    unfold stN
    rw [sF_wF_eq]
  refine ⟨⟨hz, e, hl⟩, b, ra, ⟨f0, f1⟩, hb.kB hB hQ, q1, fun i vs hv => ?_⟩
  rw [e1]
  exact (hi i vs hv).kB hB hQ
/-- a state with another row -/
theorem cb_withRow {x s r i : Nat} {A : As} {vs : List Qv} {σ : St} (hp0 : HP (PX x) σ) (hx : XS σ x) (hQ : SQ σ x) (hs : KSt σ x s A) (hr : KRow σ x r vs) (hi : i < 3) :
    Hx (fX7_withRow σ s (nI i) r) (fun σ' v => cW x s0 5 2 σ σ' ∧ KSt σ' x v (A.1, A.2.1, A.2.2.set i vs)) := by
  obtain ⟨b, ra, f0, f1, a1, k1, n1, hb, kr, hv⟩ := hs.f
  have hl := hs.1.2.2
  have hz := hx.z
  obtain ⟨cl, hM⟩ := Mk.copy (ti := 5) (cW.rf (S := s0) hp0) k1 (by omega)
  have ea : aln (nwc ra σ) (sz σ) = some (nI 3) := (sm_aln hM.2.2.1 ⟨by omega, by omega⟩).trans (by rw [hM.2.2.2.1, n1])
  have kR2 := hM.kr hx
  rw [n1] at kR2
  have hrk := hM.1.k hr.1.2.1 (by omega)
  obtain ⟨hput, hW⟩ : stQ (nwc ra σ) 5 10 (sz σ) (nI i) r = some (wQ (nwc ra σ) (sz σ) i r) ∧ cW x s0 (0 + sN σ ra) (0 + 1) σ (wQ (nwc ra σ) (sz σ) i r) :=
    ⟨stQ_ok (ti := 5) hM.2.2.1 (by rw [hM.2.2.2.1, n1]; exact hi) (by omega) (Or.inr hrk), hM.1.tr0 (cWq hM.1.hp (by rw [hM.2.2.1]; omega) (by rw [hM.2.2.1]; omega)) (fun r hr hs => by have : r = sz σ := hs; omega)⟩
  have hB := hW.toB0 hx
  have hs1 := hs.kB hB hQ
  obtain ⟨b', ra', f0', f1', _, _, _, hb', kr', hv'⟩ := hs1.f
  have hbs := hB.sam hQ hs.1.1 (by rw [hs.1.2.1]; omega) (by rw [hs.1.2.1]; omega) (Or.inl (by rw [hs.1.2.1]; omega))
  have er : ra' = ra := by
    have h1 := (sm_gF (ci := 11) (k := 1) (hB.kd hs.1.2.1 (by omega))).symm.trans f1'
    have h2 := (sm_gF (ci := 11) (k := 1) hs.1.2.1).symm.trans f1
    rw [hbs.2.1] at h1
    exact (Option.some.inj h1).symm.trans (Option.some.inj h2)
  subst er
  have hzz : sz (wQ (nwc ra' σ) (sz σ) i r) = sz σ + 1 := rfl
  have hF2 := cW.nw (κ := 12) (n := 0) (w := 2) hW.hp (by omega)
  have hs2 := hs.kB ((hW.tr hF2 (fun r _ hr => hr)).toB0 hx) hQ
  obtain ⟨b2, ra2, g0, g1, _, _, _, hb2, _⟩ := hs2.f
  have hx1 := hx.kW hW
  have hQ1 := hQ.st hW hx (fun r hr => hr.elim)
  have eb : b2 = b' := by
    have hB2 := hF2.toB0 hx1
    have hc := hB2.sam hQ1 hs1.1.1 (by rw [hs1.1.2.1]; omega) (by rw [hs1.1.2.1]; omega) (Or.inl (by rw [hs1.1.2.1]; omega))
    have h1 := (sm_gF (ci := 11) (k := 0) (hB2.kd hs1.1.2.1 (by omega))).symm.trans g0
    have h2 := (sm_gF (ci := 11) (k := 0) hs1.1.2.1).symm.trans f0'
    rw [hc.2.1] at h1
    exact (Option.some.inj h1).symm.trans (Option.some.inj h2)
  subst eb
  rw [n_fX7_withRow, f1]
  refine hx_bs ?_
  rw [cl]
  refine hx_bs (hx_nm ?_)
  rw [sm_ckK hM.2.2.1]
  refine hx_bs (Hx.ce (sm_lt (by omega) (by omega)) (fun c1 => by omega) (fun _ => ?_))
  rw [ea]
  refine hx_bs (Hx.ce (sm_le (by omega) (by omega)) (fun c1 => by omega) (fun _ => ?_))
  rw [hput]
  refine hx_bs ?_
  rw [n_fX7_withRow_25]
  refine hx_nm (hx_nm ?_)
  rw [g0]
  refine hx_bs ?_
  rw [sm_ckK (st_k (σ := wQ (nwc ra' σ) (sz σ) i r))]
  refine hx_bs ?_
  rw [cx_stateInit (by rw [hzz]; omega)]
  refine hx_cs (Hx.ret ⟨(stN_W hW).mo (fun _ _ h => h) (by rw [n1]; omega) (by omega), ?_⟩)
  have kR3 : KR (wQ (nwc ra' σ) (sz σ) i r) x 105 (sz σ) 3 := kR2
  refine stN_S hW.hp hx1 hQ1 (by show (A.2.2.set i vs).length = 3; rw [List.length_set]; exact hl) hb' kR3 (fun j ws hj => ?_)
  have hj2 : (A.2.2.set i vs)[j]? = some ws := hj
  have hjl := (List.getElem?_eq_some_iff.mp hj2).1
  rw [List.length_set] at hjl
  rw [List.getElem?_set] at hj2
  by_cases c : i = j
  · subst c
    rw [if_pos rfl, if_pos hjl] at hj2
    cases hj2
    rw [sQ_wQ_eq]
    exact hr.kB hB hQ
  · rw [if_neg c] at hj2
    rw [sQ_wQ_j (fun e => c e.symm), hM.2.2.2.2 j (by rw [n1]; omega)]
    exact (hv j ws hj2).2.kB hB hQ
/-! ===== what can be undone ===== -/
/-- the states that stand: the present one is the one at now -/
def KHis (σ : St) (x now : Nat) (H : List As) : Prop := (sI σ (fid 15 14) x = nI now ∧ sI σ (fid 15 15) x = nI (H.length - 1) ∧ now < H.length ∧ H.length ≤ 21) ∧ ∀ i A, H[i]? = some A → KSt σ x (sQ σ (x + 17) i) A
theorem KHis.kW {x now k c : Nat} {S : Nat → Prop} {H : List As} {σ σ' : St} (h : KHis σ x now H) (hF : cW x S k c σ σ') (hx : XS σ x) (hB : cB x σ σ') (hQ : SQ σ x) (h0 : ¬ S x) (h17 : ¬ S (x + 17)) : KHis σ' x now H := by
  obtain ⟨⟨h1, h2, h3⟩, hi⟩ := h
  have k0 : sK σ x = 16 := hx.kd 0 16 (by decide)
  have k17 : sK σ (x + 17) = 106 := hx.kd 17 106 (by decide)
  have s1 := hF.sam (a := x) (by omega) (Or.inl (by omega)) h0
  have s2 := hF.sam (a := x + 17) (by omega) (Or.inl (by omega)) h17
  refine ⟨⟨by rw [s1.1]; exact h1, by rw [s1.1]; exact h2, h3⟩, fun i A hA => ?_⟩
  rw [s2.2.2.2.2]
  exact (hi i A hA).kB hB hQ
theorem KHis.present {x now : Nat} {H : List As} {A : As} {σ : St} (h : KHis σ x now H) (hx : XS σ x) (hA : H[now]? = some A) : fX11_present σ x = some (σ, sQ σ (x + 17) now) ∧ KSt σ x (sQ σ (x + 17) now) A := by
  obtain ⟨⟨h1, h2, h3⟩, hi⟩ := h
  have k0 : sK σ x = 15 + 1 := hx.kd 0 16 (by decide)
  have k17 : sK σ (x + 17) = 100 + 6 := hx.kd 17 106 (by decide)
  have f : gF σ 15 13 x = some (x + 17) := hx.gf 15 13 0 17 (by decide) (by decide)
  refine ⟨?_, hi now A hA⟩
  apply hx_eq
  rw [n_fX11_present, f]
  refine hx_bs ?_
  rw [(sm_gI k0).trans (congrArg some h1)]
  refine hx_bs ?_
  rw [ldQ_ok (ti := 6) k17 (by rw [hx.nn 17 21 (by decide)]; omega) (by omega)]
  exact hx_bs (Hx.ret ⟨rfl, rfl⟩)
/-- of the class' first cell only some ints are written -/
def xI (L : List Nat) (x : Nat) (σ σ' : St) : Prop := (∀ f, f ∉ L → sI σ' f x = sI σ f x) ∧ ∀ f, sF σ' f x = sF σ f x
theorem xI.rf {L : List Nat} {x : Nat} {σ : St} : xI L x σ σ := ⟨fun _ _ => rfl, fun _ => rfl⟩
theorem xI.tr {L L1 L2 : List Nat} {x : Nat} {σ σ1 σ2 : St} (h1 : xI L1 x σ σ1) (h2 : xI L2 x σ1 σ2) (s1 : ∀ f ∈ L1, f ∈ L) (s2 : ∀ f ∈ L2, f ∈ L) : xI L x σ σ2 :=
  ⟨fun f hf => (h2.1 f (fun q => hf (s2 f q))).trans (h1.1 f (fun q => hf (s1 f q))), fun f => (h2.2 f).trans (h1.2 f)⟩
theorem xI.of {L : List Nat} {x k c : Nat} {S : Nat → Prop} {σ σ' : St} (hF : cW x S k c σ σ') (hx : XS σ x) (h : ¬ S x) : xI L x σ σ' := by
  have k0 : sK σ x = 16 := hx.kd 0 16 (by decide)
  have s1 := hF.sam (a := x) (by omega) (Or.inl (by omega)) h
  exact ⟨fun f _ => s1.1 f, s1.2.1⟩
/-- a change: what could be redone goes; of 21 the first goes -/
def chg (now : Nat) (H : List As) (A : As) : List As := if now + 1 < 21 then H.take (now + 1) ++ [A] else H.drop 1 ++ [A]
theorem cx_change_56 {x s now : Nat} {A : As} {H : List As} {σ : St} (hp0 : HP (PX x) σ) (hx : XS σ x) (hQ : SQ σ x) (h14 : sI σ (fid 15 14) x = nI now) (hn : now + 1 < 21) (hs : KSt σ x s A) (hH : H.length = now + 1) (hi : ∀ i A, H[i]? = some A → KSt σ x (sQ σ (x + 17) i) A) :
    Hx (fX11_change_56 σ x s) (fun σ' _ => cW x (s2 x (x + 17)) 0 0 σ σ' ∧ xI [fid 15 14, fid 15 15] x σ σ' ∧ KHis σ' x (now + 1) (H ++ [A])) := by
  have k0 : sK σ x = 15 + 1 := hx.kd 0 16 (by decide)
  have k17 : sK σ (x + 17) = 100 + 6 := hx.kd 17 106 (by decide)
  have hF1 := (cWi (f := fid 15 14) (v := nI (now + 1)) hp0 (show sK σ x ≠ 8 by omega) (by omega)).mo (S' := s2 x (x + 17)) (fun r _ hr => Or.inl hr) (Nat.le_refl _) (Nat.le_refl _)
  have hF2 := hF1.tr0 (cWi (f := fid 15 15) (v := nI (now + 1)) hF1.hp (show sK σ x ≠ 8 by omega) (show sK σ x ≠ 100 by omega)) (fun r _ hr => Or.inl hr)
  have hx2 := hx.kW hF2
  have hF3 := hF2.tr0 (cWq (a := x + 17) (j := now + 1) (v := s) hF2.hp (show sK σ (x + 17) ≠ 8 by omega) (show sK σ (x + 17) ≠ 100 by omega)) (fun r _ hr => Or.inr hr)
  have hB := cB.of hF3 (fun r _ hs => by rcases hs with h | h <;> omega) (fun T hT hs => by rcases hs with h | h <;> rcases hT with g | g | g <;> omega) hx
  have f : gF (wI (wI σ (fid 15 14) x (nI (now + 1))) (fid 15 15) x (nI (now + 1))) 15 13 x = some (x + 17) := hx2.gf 15 13 0 17 (by decide) (by decide)
  have i1 : gI (wI σ (fid 15 14) x (nI (now + 1))) 15 14 x = some (nI (now + 1)) := (sm_gI (σ := wI σ (fid 15 14) x (nI (now + 1))) k0).trans (congrArg some sI_wI_eq)
  have i2 : gI (wI (wI σ (fid 15 14) x (nI (now + 1))) (fid 15 15) x (nI (now + 1))) 15 14 x = some (nI (now + 1)) := by
    refine (sm_gI (σ := wI (wI σ (fid 15 14) x (nI (now + 1))) (fid 15 15) x (nI (now + 1))) k0).trans (congrArg some ?_)
    rw [sI_wI_f (by decide), sI_wI_eq]
  have w : stQ (wI (wI σ (fid 15 14) x (nI (now + 1))) (fid 15 15) x (nI (now + 1))) 6 11 (x + 17) (nI (now + 1)) s = some (wQ (wI (wI σ (fid 15 14) x (nI (now + 1))) (fid 15 15) x (nI (now + 1))) (x + 17) (now + 1) s) :=
    stQ_ok (ti := 6) k17 (by have : sN σ (x + 17) = 21 := hx.nn 17 21 (by decide)
                             show now + 1 < sN σ (x + 17)
                             omega) (by omega) (Or.inr hs.1.2.1)
  rw [n_fX11_change_56, (sm_gI k0).trans (congrArg some h14)]
  refine hx_bs ?_
  rw [sm_add, sm_pI k0]
  refine hx_bs ?_
  rw [i1]
  refine hx_bs ?_
  rw [sm_pI (show sK (wI σ (fid 15 14) x (nI (now + 1))) x = 15 + 1 from k0)]
  refine hx_bs ?_
  rw [f]
  refine hx_bs ?_
  rw [i2]
  refine hx_bs ?_
  rw [w]
  refine hx_bs (Hx.ret ⟨hF3, ⟨fun f hf => ?_, fun f => rfl⟩, ⟨?_, ?_, ?_, ?_⟩, fun i B hB2 => ?_⟩)
  · simp only [List.mem_cons, List.not_mem_nil, or_false, not_or] at hf
    exact (sI_wI_f hf.2).trans (sI_wI_f hf.1)
  · show sI (wI (wI σ (fid 15 14) x (nI (now + 1))) (fid 15 15) x (nI (now + 1))) (fid 15 14) x = nI (now + 1)
    rw [sI_wI_f (by decide), sI_wI_eq]
  · rw [List.length_append, List.length_singleton, hH]
    show sI (wI (wI σ (fid 15 14) x (nI (now + 1))) (fid 15 15) x (nI (now + 1))) (fid 15 15) x = nI (now + 1)
    rw [sI_wI_eq]
  · rw [List.length_append, List.length_singleton, hH]; omega
  · rw [List.length_append, List.length_singleton, hH]; omega
  · by_cases c : i = now + 1
    · subst c
      rw [List.getElem?_append_right (by omega), hH, Nat.sub_self] at hB2
      cases hB2
      rw [sQ_wQ_eq]
      exact hs.kB hB hQ
    · have hil : i < H.length := by
        have := (List.getElem?_eq_some_iff.mp hB2).1
        rw [List.length_append, List.length_singleton] at this
        omega
      rw [List.getElem?_append_left hil] at hB2
      rw [sQ_wQ_j c]
      exact (hi i B hB2).kB hB hQ
theorem cx_change {x s now : Nat} {A : As} {H : List As} {σ : St} (hp0 : HP (PX x) σ) (hx : XS σ x) (hQ : SQ σ x) (hH : KHis σ x now H) (hs : KSt σ x s A) :
    Hx (fX11_change σ x s) (fun σ' _ => cW x (s2 x (x + 17)) 0 0 σ σ' ∧ xI [fid 15 14, fid 15 15] x σ σ' ∧ KHis σ' x (if now + 1 < 21 then now + 1 else 20) (chg now H A)) := by
  obtain ⟨⟨h1, h2, h3, h4⟩, hi⟩ := id hH
  have k0 : sK σ x = 15 + 1 := hx.kd 0 16 (by decide)
  have n17 : sN σ (x + 17) = 21 := hx.nn 17 21 (by decide)
  have k17 : sK σ (x + 17) = 100 + 6 := hx.kd 17 106 (by decide)
  have f : gF σ 15 13 x = some (x + 17) := hx.gf 15 13 0 17 (by decide) (by decide)
  have a17 : aln σ (x + 17) = some (nI 21) := (sm_aln k17 ⟨by omega, by omega⟩).trans (by rw [n17])
  rw [n_fX11_change, (sm_gI k0).trans (congrArg some h1)]
  refine hx_bs ?_
  rw [f]
  refine hx_bs ?_
  rw [a17]
  refine hx_bs ?_
  rw [sm_add]
  refine Hx.ce (sm_lt (by omega) (by omega)) (fun c1 => ?_) (fun c1 => ?_)
  · have e : (H.take (now + 1)).length = now + 1 := by rw [List.length_take]; omega
    unfold chg
    rw [if_pos c1, if_pos c1]
    refine cx_change_56 hp0 hx hQ h1 c1 hs e (fun i B hB => hi i B ?_)
    rw [List.getElem?_take] at hB
    split at hB
    · exact hB
    · cases hB
  · have hnow : now = 20 := by omega
    have hHl : H.length = 21 := by omega
    have key : ∀ (n k : Nat) (σ1 : St), 21 - k < n → 1 ≤ k → k ≤ 21 → cW x (s1 (x + 17)) 0 0 σ σ1 → (∀ i, sQ σ1 (x + 17) i = if i + 1 < k then sQ σ (x + 17) (i + 1) else sQ σ (x + 17) i) →
        Hx (fX11_change_16 n σ1 x s (nI k)) (fun σ' _ => cW x (s2 x (x + 17)) 0 0 σ σ' ∧ xI [fid 15 14, fid 15 15] x σ σ' ∧ KHis σ' x 20 (H.drop 1 ++ [A])) := by
      intro n
      induction n with
      | zero => intro k σ1 h; omega
      | succ n ih =>
        intro k σ1 hn hk1 hk hF hq
        have hx1 := hx.kW hF
        have hB1 := cB.of hF (fun r _ hs => by have : r = x + 17 := hs; omega) (fun T hT hs => by have : x + T = x + 17 := hs; rcases hT with g | g | g <;> omega) hx
        have hQ1 := hQ.st hF hx (fun r hr => by have : r = x + 17 := hr; omega)
        have k01 : sK σ1 x = 15 + 1 := hx1.kd 0 16 (by decide)
        have n171 : sN σ1 (x + 17) = 21 := hx1.nn 17 21 (by decide)
        have k171 : sK σ1 (x + 17) = 100 + 6 := hx1.kd 17 106 (by decide)
        have f1 : gF σ1 15 13 x = some (x + 17) := hx1.gf 15 13 0 17 (by decide) (by decide)
        have a171 : aln σ1 (x + 17) = some (nI 21) := (sm_aln k171 ⟨by omega, by omega⟩).trans (by rw [n171])
        rw [n_fX11_change_16, f1]
        refine hx_bs ?_
        rw [a171]
        refine hx_bs (Hx.ce (sm_le (by omega) (by omega)) (fun c2 => ?_) (fun c2 => ?_))
        · have hk21 : k = 21 := by omega
          subst hk21
          refine hx_bs ?_
          rw [a171]
          refine hx_bs ?_
          rw [sm_sub (by omega), sm_pI k01]
          refine hx_bs ?_
          have hF2 := (hF.mo (S' := s2 x (x + 17)) (fun r _ hr => Or.inr hr) (Nat.le_refl _) (Nat.le_refl _)).tr0 (cWi (f := fid 15 14) (v := nI (21 - 2)) hF.hp (show sK σ1 x ≠ 8 by omega) (show sK σ1 x ≠ 100 by omega)) (fun r _ hr => Or.inl hr)
          have hB2 := cB.of hF2 (fun r _ hs => by rcases hs with h | h <;> omega) (fun T hT hs => by rcases hs with h | h <;> rcases hT with g | g | g <;> omega) hx
          have hQ2 := hQ.st hF2 hx (fun r hr => by rcases hr with h | h <;> omega)
          have hl2 : (H.drop 1).length = 19 + 1 := by rw [List.length_drop]; omega
          refine Hx.mo (cx_change_56 (now := 19) (H := H.drop 1) (A := A) hF2.hp (hx.kW hF2) hQ2 sI_wI_eq (by omega) (hs.kB hB2 hQ) hl2 (fun i B hB => ?_)) (fun σ' _ h => ?_)
          · have hil := (List.getElem?_eq_some_iff.mp hB).1
            rw [List.getElem?_drop] at hB
            have e : sQ (wI σ1 (fid 15 14) x (nI (21 - 2))) (x + 17) i = sQ σ (x + 17) (i + 1) := by
              show sQ σ1 (x + 17) i = _
              rw [hq, if_pos (by omega)]
            rw [e]
            exact (hi (i + 1) B (by rw [Nat.add_comm i 1]; exact hB)).kB hB2 hQ
          · refine ⟨hF2.tr0 h.1 (fun r _ hr => hr), ?_, h.2.2⟩
            have x1 : xI [] x σ σ1 := xI.of hF hx (fun h => by have : x = x + 17 := h; omega)
            refine ⟨fun f hf => ?_, fun f => (h.2.1.2 f).trans (x1.2 f)⟩
            refine (h.2.1.1 f hf).trans ((sI_wI_f ?_).trans (x1.1 f (fun q => by cases q)))
            simp only [List.mem_cons, List.not_mem_nil, or_false, not_or] at hf
            exact hf.1
        · refine hx_bs (hx_bs ?_)
          rw [ldQ_ok (ti := 6) k171 (by rw [n171]; omega) (by omega)]
          refine hx_bs ?_
          have hkH := List.getElem?_eq_getElem (show k < H.length by omega)
          have hv : sQ σ1 (x + 17) k = sQ σ (x + 17) k := by rw [hq, if_neg (by omega)]
          have hst := (hi k _ hkH).kB hB1 hQ
          rw [hv, sm_sub hk1, stQ_ok (ti := 6) (ci := 11) k171 (by rw [n171]; omega) (by omega) (Or.inr hst.1.2.1)]
          refine hx_bs (hx_nm ?_)
          rw [sm_add]
          refine ih (k + 1) _ (by omega) (by omega) (by omega) (hF.tr0 (cWq hF.hp (by omega) (by omega)) (fun r _ hr => hr)) (fun i => ?_)
          by_cases e : i = k - 1
          · subst e
            rw [sQ_wQ_eq, if_pos (by omega)]
            congr 1
            omega
          · rw [sQ_wQ_j e, hq]
            by_cases c3 : i + 1 < k
            · rw [if_pos c3, if_pos (by omega)]
            · rw [if_neg c3, if_neg (by omega)]
    unfold chg
    rw [if_neg c1, if_neg c1]
    exact key FU 1 σ (by show 21 - 1 < 4294967296; omega) (by omega) (by omega) (cW.rf hp0) (fun i => by rw [if_neg (by omega)])
