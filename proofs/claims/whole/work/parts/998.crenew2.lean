/-! ===== the class' names worked anew: the loop ===== -/
/-- none of what is left is used by it -/
def rdyP (T : List Th) (L : List Nat) (i : Nat) : Prop := ∃ e, T[i]? = some e ∧ ∀ j ∈ L, ¬ rS T e.2.2 j
/-- the first that is ready -/
noncomputable def rdyF (T : List Th) (L : List Nat) : Option Nat := L.find? fun i => @decide (rdyP T L i) (Classical.propDecidable _)
/-- the names of L worked anew: the word that failed, or the names -/
noncomputable def rnw (T : List Th) (fs : List FE) : Nat → List NE → List Nat → Option (Nat ⊕ List NE)
  | 0, ns, L => if L = [] then some (Sum.inr ns) else none
  | k + 1, ns, L => if L = [] then some (Sum.inr ns) else (rdyF T L).bind fun i => ns[i]?.bind fun e => (wrk (nvl ns) (fbd fs) 1000000 [] e.2.1 [] 0 []).bind fun r => if r.1 = 0 then rnw T fs k (ns.set i (e.1, e.2.1, r.2.2.1)) (L.erase i) else some (Sum.inl e.1)
theorem Ths_set {ns : List NE} {fs : List FE} {i : Nat} {e e' : NE} (h : ns[i]? = some e) (h1 : e'.1 = e.1) (h2 : e'.2.1 = e.2.1) : Ths (ns.set i e') fs = Ths ns fs := by
  have hi := (List.getElem?_eq_some_iff.mp h)
  unfold Ths
  congr 1
  apply List.ext_getElem?
  intro j
  rw [List.getElem?_map, List.getElem?_map, List.getElem?_set]
  by_cases c : i = j
  · subst c
    rw [if_pos rfl, if_pos hi.1, h]
    simp [h1, h2]
  · rw [if_neg c]
theorem rdyF_eq {T : List Th} {L : List Nat} {i : Nat} (hs : L.Pairwise (· < ·)) (hi : i ∈ L) (hr : rdyP T L i) (hm : ∀ j ∈ L, j < i → ¬ rdyP T L j) : rdyF T L = some i := by
  unfold rdyF
  cases hf : L.find? fun i => @decide (rdyP T L i) (Classical.propDecidable _) with
  | none =>
    exfalso
    rw [List.find?_eq_none] at hf
    exact hf i hi (@decide_eq_true _ (Classical.propDecidable _) hr)
  | some k =>
    have hk := List.find?_some hf
    have hkm := List.mem_of_find?_eq_some hf
    have hkr : rdyP T L k := @of_decide_eq_true _ (Classical.propDecidable _) hk
    rcases Nat.lt_trichotomy k i with h | h | h
    · exact absurd hkr (hm k hkm h)
    · rw [h]
    · exfalso
      obtain ⟨_, as, bs, e, hno⟩ := List.find?_eq_some_iff_append.mp hf
      have hi2 : i ∈ as := by
        rw [e] at hi hs
        rcases List.mem_append.mp hi with g | g
        · exact g
        · exfalso
          rw [List.pairwise_append] at hs
          rcases List.mem_cons.mp g with g | g
          · omega
          · have := (List.pairwise_cons.mp hs.2.1).1 i g
            omega
      have := hno i hi2
      simp only [Bool.not_eq_true'] at this
      exact absurd hr (@of_decide_eq_false _ (Classical.propDecidable _) this)
theorem rdyF_some {T : List Th} {L : List Nat} {i : Nat} (h : rdyF T L = some i) : i ∈ L ∧ rdyP T L i := by
  unfold rdyF at h
  have hk := List.find?_some h
  exact ⟨List.mem_of_find?_eq_some h, @of_decide_eq_true _ (Classical.propDecidable _) hk⟩
/-- the class' first that is ready is the list's -/
theorem cb_readyL {σ : St} {x b na fa : Nat} {ns : List NE} {fs : List FE} {u : Int32} {L : List Nat} {i : Nat} (hB : KBk σ x b na fa ns fs) (hU : KUs σ x b (Ths ns fs)) (hu : Bm u (· ∈ L)) (hL : ∀ j ∈ L, j < ns.length) (hs : L.Pairwise (· < ·)) (hi : rdyF (Ths ns fs) L = some i) : fX0_firstReady σ b u = some (σ, nI i) := by
  have hln := hB.1.2.2
  have hTl := Ths_len ns fs
  obtain ⟨o, e1, e2, e3⟩ := cb_firstReady hB hU hu
  obtain ⟨h1, e, h2, h3⟩ := rdyF_some hi
  cases o with
  | none => exact absurd ⟨h1, fun j _ q => h3 j q.2 q.1⟩ (e3 rfl i e (hL i h1) h2)
  | some k =>
    obtain ⟨g1, e', g2, g3, g4, g5⟩ := e2 k rfl
    have hk : rdyF (Ths ns fs) L = some k := by
      refine rdyF_eq hs g3 ⟨e', g2, fun j hj q => g4 j (by have := hL j hj; omega) ⟨q, hj⟩⟩ (fun j hj hjk hr => ?_)
      obtain ⟨e4, h4, h5⟩ := hr
      exact g5 j e4 hjk h4 ⟨hj, fun m _ q => h5 m q.2 q.1⟩
    rw [hi] at hk
    cases hk
    rw [e1, thn_nI, Nat.zero_add]
theorem KF.made {x a : Nat} {q : Qv} {σ0 σ : St} {k c : Nat} (hx : XS σ0 x) (hQ : SQ σ0 x) (hF : cW x s0 k c σ0 σ) (ha : sz σ0 ≤ a) (hq : qok q) (h : FX σ a q.1 q.2.1 q.2.2) : KF σ x a q := by
  have hz := hx.z
  refine ⟨Or.inl (by omega), fun T i hT e => ?_, hq, h⟩
  rw [hF.row hx hT (fun q => q)] at e
  have h0 : sQ σ0 (x + T) i ≠ 0 := by omega
  have := hF.1.1.z (a := sQ σ0 (x + T) i) (by rw [(hQ.1 T i hT h0).2.1.1]; omega)
  omega
/-- one name worked anew: the new thing told comes into the book -/
theorem cx_renew_put {x b na fa i t : Nat} {ns : List NE} {fs : List FE} {e : NE} {q : Qv} {σ : St} (hp0 : HP (PX x) σ) (hx : XS σ x) (hQ : SQ σ x) (hB : KBk σ x b na fa ns fs) (hne : na ≠ fa) (he : ns[i]? = some e) (hX : FX σ (x + 80) q.1 q.2.1 q.2.2) (hq : qok q) (ht : sQ σ na i = t) {k : St → Option (St × Nat)} {Q : St → Nat → Prop} (hk : ∀ σ', (∃ σm, cW x s0 19 6 σ σm ∧ (∃ t', σ' = wQ σm na i t') ∧ KBk σ' x b na fa (ns.set i (e.1, e.2.1, q)) fs) → Hx (k σ') Q) :
    Hx (nm (nw 15 0 4 σ) fun σ18 => nm (sz σ) fun a19 => Option.bind (gI σ18 14 0 t) fun v20 => Option.bind (gF σ18 14 2 t) fun v21 => nm (nw 6 0 3 σ18) fun σ22 => nm (sz σ18) fun a23 => Option.bind (gF σ22 15 18 x) fun v24 => Option.bind (gF σ22 6 8 v24) fun v25 => Option.bind (ckK σ22 6 a23) fun _ => cb (fX1_init_ σ22 a23 v25) fun σ26 _ => Option.bind (ckK σ26 15 a19) fun _ => cb (fX10_init σ26 a19 v20 (nI 0) v21 a23) fun σ29 _ => Option.bind (stQ σ29 8 14 na (nI i) a19) fun σ32 => k σ32) Q := by
  have hil := (List.getElem?_eq_some_iff.mp he).1
  have hK := hB.2.2.2.1 i e he
  rw [ht] at hK
  have hz := hx.z
  have hF1 := cW.nw (κ := 15) (n := 0) (w := 4) hp0 (by omega)
  have hx1 := hx.kW hF1
  have hQ1 := hQ.st hF1 hx (fun r hr => hr.elim)
  have cb1 := hF1.toB0 hx
  have hK1 := hK.kB cb1 hQ
  have k15 : sK (nw 15 0 4 σ) (sz σ) = 15 := tl_k
  have hX1 := hX.kW hF1 ⟨fun h => h, fun h => h, fun h => h⟩
  obtain ⟨w1, w2, w3, w4, w5, w6⟩ := hK1.k
  have hF2 := cW.nw (κ := 6) (n := 0) (w := 3) hF1.hp (by omega)
  have hx2 := hx1.kW hF2
  have k6 : sK (nw 6 0 3 (nw 15 0 4 σ)) (sz (nw 15 0 4 σ)) = 6 := if_pos rfl
  refine hx_nm (hx_nm ?_)
  rw [w1]
  refine hx_bs ?_
  rw [w3]
  refine hx_bs (hx_nm (hx_nm ?_))
  rw [show gF (nw 6 0 3 (nw 15 0 4 σ)) 15 18 x = some (x + 75) from hx2.gf 15 18 0 75 (by decide) (by decide)]
  refine hx_bs ?_
  rw [hx2.gf 6 8 75 80 (by decide) (by decide)]
  refine hx_bs ?_
  rw [sm_ckK k6]
  refine hx_bs ?_
  refine Hx.bd (cf_copy hF1.hp hX1 hq.n4.1 hq.n4.2) (fun σ3 _ h => ?_)
  obtain ⟨hF3, hX3⟩ := h
  have hF13 := hF1.tr hF3 (fun r _ hr => hr)
  have k153 : sK σ3 (sz σ) = 15 := hF3.k k15 (by omega)
  rw [sm_ckK k153]
  refine hx_bs ?_
  rw [cx_toldInit (by omega) k153]
  refine hx_cs ?_
  have hF4 := tlN_W (w := nI e.1) (np := nI 0) (s := sF (nw 15 0 4 σ) (fid 14 2) t) (v := sz (nw 15 0 4 σ)) hF13 (Nat.le_refl _) k153
  have hx4 := hx.kW hF4
  have cb4 := hF4.toB0 hx
  have hB4 := hB.kB cb4 hQ
  have hsum : sF (nw 15 0 4 σ) (fid 14 2) t = sF σ (fid 14 2) t := if_neg (by have := hp0.z (a := t) (by rw [hK.1.2]; omega); omega)
  have hT4 := tlN_T (x := x) (σ1 := σ3) (s := sF (nw 15 0 4 σ) (fid 14 2) t) (v := sz (nw 15 0 4 σ)) (a := sz σ) (w := e.1) (np := 0) (l := e.2.1) (vo := some q) hz k153 hK.2.1.2 (by omega) (by have h9 := hK.2.2.2.1.kB cb4 hQ; rw [← hsum] at h9; exact h9) (KF.made hx hQ hF4 (by show sz σ ≤ sz σ + 1; omega) hq hX3)
  have k154 : sK (wF (wF (wI (wI σ3 (fid 14 0) (sz σ) (nI e.1)) (fid 14 1) (sz σ) (nI 0)) (fid 14 2) (sz σ) (sF (nw 15 0 4 σ) (fid 14 2) t)) (fid 14 3) (sz σ) (sz (nw 15 0 4 σ))) (sz σ) = 15 := k153
  generalize wF (wF (wI (wI σ3 (fid 14 0) (sz σ) (nI e.1)) (fid 14 1) (sz σ) (nI 0)) (fid 14 2) (sz σ) (sF (nw 15 0 4 σ) (fid 14 2) t)) (fid 14 3) (sz σ) (sz (nw 15 0 4 σ)) = σ4 at *
  have hkn := hB4.2.2.1.1
  have hln := hB.1.2.2
  rw [stQ_ok (ti := 8) hkn.2.1 (by rw [hkn.2.2]; exact hil) (by omega) (Or.inr k154)]
  refine hx_bs (hk _ ⟨σ4, hF4.mo (fun _ _ h => h) (by omega) (by omega), ⟨_, rfl⟩, ?_⟩)
  exact hB4.set (e := (e.1, e.2.1, q)) hx4 hne hT4
