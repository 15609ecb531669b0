/-! ===== the class' calls: a name taken, a thing dropped ===== -/
theorem fixI_get {ws : List Nat} {v : Int32} {k : Nat} (h : fixI ws v = some k) : ∃ w, ws[k]? = some w ∧ nI w = v := by
  unfold fixI at h
  rw [List.findIdx?_eq_some_iff_getElem] at h
  obtain ⟨hk, h1, _⟩ := h
  exact ⟨ws[k], List.getElem?_eq_getElem hk, by simpa using h1⟩
theorem cx_takeName {x now : Nat} {H : List As} {A : As} {v : Int32} {σ : St} (hp : HP (PX x) σ) (hx : XS σ x) (hQ : SQ σ x) (hH : KHis σ x now H) (hA : H[now]? = some A) :
    Hx (fX11_takeName σ x v) (fun σ' w => (∃ k e, fixI (A.1.map (·.1)) v = some k ∧ A.1[k]? = some e ∧ cW x (s1 x) 0 0 σ σ' ∧ xAn x σ σ' ∧ KHis σ' x now H ∧ KAn σ' x e.2.2 ∧ w = .inr (iz e.2.2.1)) ∨ fixI (A.1.map (·.1)) v = none ∧ σ' = th σ ∧ w = .inl "java/util/NoSuchElementException") := by
  obtain ⟨s, b, na, fa, pr, hS, f0, hB, hU⟩ := hH.book hx hA
  have ck := sm_ckK (show sK σ x = 16 from hx.kd 0 16 (by decide))
  have hln := hB.1.2.2
  rw [n_fX11_takeName, ck]
  refine hx_bs ?_
  rw [pr]
  refine hx_cs ?_
  rw [f0]
  refine hx_bs ?_
  rw [ck]
  refine hx_bs ?_
  rw [pr]
  refine hx_cs ?_
  rw [f0]
  refine hx_bs ?_
  rw [sm_ckK hB.1.2.1]
  refine hx_bs ?_
  rw [cb_find hB (show 0 ≤ 1 by omega), if_pos rfl, if_pos rfl]
  refine hx_cs ?_
  rw [sm_ckK hB.1.2.1]
  refine hx_bs ?_
  cases hf : fixI (A.1.map (·.1)) v with
  | none =>
    show Hx (cb (fX0_toldAt σ b (iz (-1))) _) _
    rw [cb_toldM]
    refine hx_cs (Hx.cs (fun _ => ?_) (fun c => absurd rfl c))
    rw [n_fX11_takeName_34]
    exact Hx.ret (Or.inr ⟨rfl, rfl, rfl⟩)
  | some k =>
    obtain ⟨w, hw, _⟩ := fixI_get hf
    rw [List.getElem?_map] at hw
    cases he : A.1[k]? with
    | none => rw [he] at hw; cases hw
    | some e =>
      have hk := (List.getElem?_eq_some_iff.mp he).1
      have hT := hB.2.2.2.1 k e he
      obtain ⟨t1, t2, t3, t4, t5, t6⟩ := hT.k
      have kf : KF σ x (sF σ (fid 14 3) (sQ σ na k)) e.2.2 := hT.2.2.2.2
      have hv0 : sF σ (fid 14 3) (sQ σ na k) ≠ 0 := by rcases kf.1 with h | h <;> omega
      obtain ⟨p1, p2, p3, p4, p5, p6⟩ := cx_setAnswer hp hx hQ hH kf
      rw [thn_nI, Nat.zero_add, cb_toldAt hB (by omega), if_pos hk]
      refine hx_cs ?_
      rw [if_neg t6, t4]
      refine hx_bs ?_
      rw [if_neg hv0]
      refine hx_bs ?_
      rw [p1]
      refine hx_bs ?_
      rw [KAn.f (q := e.2.2) (hx.kW p2)]
      refine hx_bs ?_
      rw [KF.sgn p5]
      exact hx_bs (Hx.ret (Or.inl ⟨k, e, rfl, he, p2, p3, p4, p5, rfl⟩))
/-- what is left when a node goes -/
def drN (ns : List NE) (p : Nat) : List NE := if p < ns.length then ns.eraseIdx p else ns
def drF (ns : List NE) (fs : List FE) (p : Nat) : List FE := if p < ns.length then fs else fs.eraseIdx (p - ns.length)
theorem dr_nod {ns : List NE} {fs : List FE} {p : Nat} (h : Nod ns fs) : Nod (drN ns p) (drF ns fs p) := by
  unfold drN drF
  split
  · exact ⟨((List.eraseIdx_sublist _ _).map _).nodup h.1, h.2⟩
  · exact ⟨h.1, ((List.eraseIdx_sublist _ _).map _).nodup h.2⟩
theorem cx_drop {x now f : Nat} {H : List As} {A : As} {v : Int32} {σ : St} (hp : HP (PX x) σ) (hx : XS σ x) (hQ : SQ σ x) (hH : KHis σ x now H) (hA : H[now]? = some A) (hf1 : f ≤ 1)
    (hw : ∀ e ∈ A.1, 0 < e.1 ∧ e.1 < 387420489) (hw2 : ∀ e ∈ A.2.1, 0 < e.1 ∧ e.1 < 387420489) (hN : Nod A.1 A.2.1) (hkw : ∀ e ∈ A.2.1, known e.1 = 0) :
    Hx (fX11_drop σ x v (nI f)) (fun σ' w => match (fixI (if f = 0 then A.1.map (·.1) else A.2.1.map (·.1)) v).map ((if f = 0 then 0 else A.1.length) + ·) with
      | none => σ' = th σ ∧ w = .inl "java/util/NoSuchElementException"
      | some p => ((∃ (i : Nat) (e : Th), (Ths A.1 A.2.1)[i]? = some e ∧ rS (Ths A.1 A.2.1) e.2.2 p) ∧ σ' = th σ ∧ w = .inl "java/lang/IllegalStateException") ∨
        (¬ (∃ (i : Nat) (e : Th), (Ths A.1 A.2.1)[i]? = some e ∧ rS (Ths A.1 A.2.1) e.2.2 p) ∧ cW x (s2 x (x + 17)) 102 5 σ σ' ∧ xI [fid 15 14, fid 15 15] x σ σ' ∧ KHis σ' x (if now + 1 < 21 then now + 1 else 20) (chg now H (drN A.1 p, drF A.1 A.2.1 p, A.2.2)) ∧ w = .inr (nI ((drN A.1 p).length + (drF A.1 A.2.1 p).length)))) := by
  obtain ⟨s, b, na, fa, pr, hS, f0, hB, hU⟩ := hH.book hx hA
  have ck := sm_ckK (show sK σ x = 16 from hx.kd 0 16 (by decide))
  have hln := hB.1.2.2
  have hTl := Ths_len A.1 A.2.1
  rw [n_fX11_drop, ck]
  refine hx_bs ?_
  rw [pr]
  refine hx_cs ?_
  rw [f0]
  refine hx_bs ?_
  rw [sm_ckK hB.1.2.1]
  refine hx_bs ?_
  rw [cb_find hB hf1]
  refine hx_cs ?_
  cases hf : fixI (if f = 0 then A.1.map (·.1) else A.2.1.map (·.1)) v with
  | none =>
    refine Hx.cs (fun _ => Hx.ret ⟨rfl, rfl⟩) (fun c => absurd rfl c)
  | some k =>
    obtain ⟨w, hw9, _⟩ := fixI_get hf
    have hk := (List.getElem?_eq_some_iff.mp hw9).1
    have hpl : (if f = 0 then 0 else A.1.length) + k < A.1.length + A.2.1.length := by
      by_cases c : f = 0
      · rw [if_pos c] at hk ⊢; rw [List.length_map] at hk; omega
      · rw [if_neg c] at hk ⊢; rw [List.length_map] at hk; omega
    simp only [Option.map_some]
    rw [thn_nI]
    generalize (if f = 0 then 0 else A.1.length) + k = p at *
    refine Hx.ce (show (nI p = iz (-1)) = False from by
      rw [sm_iz, iz_eq (by omega) (by omega) (by omega) (by omega)]
      exact propext ⟨fun h => by omega, fun h => h.elim⟩) (fun h => h.elim) (fun _ => ?_)
    rw [sm_ckK hB.1.2.1]
    refine hx_bs ?_
    rw [cb_isUsed hU hB.1.2.1 (by omega) (by omega)]
    refine hx_cs (Hx.ce b01_0 (fun c2 => ?_) (fun c2 => Hx.ret (Or.inl ⟨Classical.not_not.mp c2, rfl, rfl⟩)))
    rw [sm_ckK hB.1.2.1]
    refine hx_bs ?_
    refine Hx.bd (cb_without hp hx hQ hB hw hw2 hpl (dr_nod hN) hkw) (fun σ1 b1 h => ?_)
    obtain ⟨hF1, hB1⟩ := h
    have cb1 := hF1.toB0 hx
    have hx1 := hx.kW hF1
    have hQ1 := hQ.st hF1 hx (fun r hr => hr.elim)
    have hH1 := hH.kW hF1 hx cb1 hQ (fun h => h) (fun h => h)
    have hB1' : KBook σ1 x b1 (drN A.1 p) (drF A.1 A.2.1 p) := hB1
    refine cx_newState hF1.hp hx1 hQ1 hH1 hA hB1' (fun σ2 hF2 hI2 hH2 => ?_)
    have cb2 := cB.of hF2 (fun r _ hs => by rcases hs with h | h <;> omega) (fun T hT hs => by rcases hs with h | h <;> rcases hT with g | g | g <;> omega) hx1
    obtain ⟨⟨na2, fa2, hB2⟩, _⟩ := hB1'.kB cb2 hQ1
    obtain ⟨g1, g2, g3, g4, g5⟩ := ob_f hB2
    rw [g1]
    refine hx_bs ?_
    rw [g3]
    refine hx_bs ?_
    rw [g2]
    refine hx_bs ?_
    rw [g4]
    refine hx_bs ?_
    rw [sm_add]
    refine Hx.ret (Or.inr ⟨c2, ((hF1.mo (S' := s2 x (x + 17)) (fun r _ h => h.elim) (Nat.le_refl _) (Nat.le_refl _)).tr hF2 (fun r _ hr => hr)).mo (fun r _ hr => hr) (by omega) (by omega), ?_, hH2, rfl⟩)
    exact (xI.of (L := []) hF1 hx (fun h => h)).tr hI2 (fun f h => by cases h) (fun f h => h)
