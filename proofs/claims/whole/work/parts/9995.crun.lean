/-! ===== the class' run: behind the work ===== -/
theorem StS.kW {x o k c : Nat} {sts : Sts} {S : Nat → Prop} {σ σ' : St} (h : StS σ x o sts) (hx : XS σ x) (hQ : SQ σ x) (hF : cW x S k c σ σ') (h1 : ¬ S (x + o) ∧ ¬ S (x + (o + 1)) ∧ ¬ S (x + (o + 2))) (h2 : ∀ r, S r → r ≤ x + 84) : StS σ' x o sts := by
  rcases h with h | ⟨ho, e1, e2⟩
  · exact Or.inl h
  · obtain ⟨⟨k1, k2, k3, k4, k5⟩, _⟩ := hx.o ho
    have kT : sK σ (x + (o + 2)) = 104 := hx.k104 ho.t
    have s1 := hF.sam (a := x + o) (by omega) (Or.inl (by omega)) h1.1
    have s2 := hF.sam (a := x + (o + 1)) (by omega) (Or.inr k5) h1.2.1
    have s3 := hF.sam (a := x + (o + 2)) (by omega) (Or.inl (by omega)) h1.2.2
    refine Or.inr ⟨ho, by rw [s1.1]; exact e1, fun j s hj => ?_⟩
    obtain ⟨q1, q2, q3, q4⟩ := e2 j s hj
    have hlow := (hQ.1 (o + 2) j ho.t q2).1
    rw [s2.2.2.1, s3.2.2.2.2]
    exact ⟨q1, q2, q3.kW hF ⟨fun h => by have := h2 _ h; omega, fun h => by have := h2 _ h; omega, fun h => by have := h2 _ h; omega⟩, q4⟩
/-- of the class' first cell only the answer and the steps are written -/
def xAs (x : Nat) (σ σ' : St) : Prop := (∀ f, sI σ' f x = sI σ f x) ∧ ∀ f, f ≠ fid 15 8 → f ≠ fid 15 11 → f ≠ fid 15 12 → sF σ' f x = sF σ f x
theorem cx_run_170 {x form w wp np : Nat} {l : List It} {σ : St} (hx : XS σ x) (hL : Ln σ x form w wp np l) : fX11_run_170 σ x = some (σ, .inr (nI form)) := by
  obtain ⟨l1, l2, _⟩ := hL.f hx
  apply hx_eq
  rw [n_fX11_run_170, l1]
  refine hx_bs ?_
  rw [l2]
  exact hx_bs (Hx.ret ⟨rfl, rfl⟩)
theorem cx_run_143 {x form w wp np o v now : Nat} {l : List It} {H : List As} {q : Qv} {sts : Sts} {σ : St} (hp : HP (PX x) σ) (hx : XS σ x) (hQ : SQ σ x) (hH : KHis σ x now H) (hL : Ln σ x form w wp np l) (ho : KSp σ x o) (hS : StS σ x o sts) (hv : KF σ x v q) :
    Hx (fX11_run_143 σ x v) (fun σ' r => r = .inr (nI form) ∧ cW x (s1 x) 0 0 σ σ' ∧ xAs x σ σ' ∧ KHis σ' x now H ∧ KAn σ' x q ∧ KSp σ' x (25 - o) ∧ StS σ' x o sts) := by
  have hoo : o = 11 ∨ o = 14 := ho.1
  have k0 : sK σ x = 15 + 1 := hx.kd 0 16 (by decide)
  have hv0 : v ≠ 0 := by rcases hv.1 with h | h <;> omega
  have hF1 : cW x (s1 x) 0 0 σ (wF σ (fid 15 8) x v) := (cW.rf hp).wf (Or.inr ⟨by decide, rfl⟩) (by omega) (by omega)
  have hF2 : cW x (s1 x) 0 0 σ (wF (wF σ (fid 15 8) x v) (fid 15 11) x (x + o)) := hF1.wf (Or.inr ⟨by decide, rfl⟩) (show sK σ x ≠ 8 by omega) (show sK σ x ≠ 100 by omega)
  have hF3 : cW x (s1 x) 0 0 σ (wF (wF (wF σ (fid 15 8) x v) (fid 15 11) x (x + o)) (fid 15 12) x (x + (25 - o))) := hF2.wf (Or.inr ⟨by decide, rfl⟩) (show sK σ x ≠ 8 by omega) (show sK σ x ≠ 100 by omega)
  have hB := cB.of hF3 (fun r _ hs => by have : r = x := hs; omega) (fun T hT hs => by have : x + T = x := hs; rcases hT with g | g | g <;> omega) hx
  have hL3 := hL.kW hF3 hx hB hQ (fun h => by have : x + 65 = x := h; omega)
  have hx3 := hx.kW hF3
  have a1 : gF (wF σ (fid 15 8) x v) 15 11 x = some (x + (25 - o)) := (sm_gF (σ := wF σ (fid 15 8) x v) k0).trans (congrArg some ((sF_wF_f (by decide)).trans ho.2.1))
  have a2 : gF (wF σ (fid 15 8) x v) 15 12 x = some (x + o) := (sm_gF (σ := wF σ (fid 15 8) x v) k0).trans (congrArg some ((sF_wF_f (by decide)).trans ho.2.2))
  rw [n_fX11_run_143, if_neg hv0, sm_pF k0]
  refine hx_bs ?_
  rw [a1]
  refine hx_bs ?_
  rw [a2]
  refine hx_bs ?_
  rw [sm_pF (show sK (wF σ (fid 15 8) x v) x = 15 + 1 from k0)]
  refine hx_bs ?_
  rw [sm_pF (show sK (wF (wF σ (fid 15 8) x v) (fid 15 11) x (x + o)) x = 15 + 1 from k0)]
  refine hx_bs ?_
  rw [cx_run_170 hx3 hL3]
  refine Hx.ret ⟨rfl, hF3, ⟨fun f => rfl, fun f h1 h2 h3 => ?_⟩, ⟨hH.1, fun i A hA => (hH.2 i A hA).kB hB hQ⟩, ?_, ⟨?_, ?_, ?_⟩, hS.kW hx hQ hF3 ⟨fun h => by have : x + o = x := h; omega, fun h => by have : x + (o + 1) = x := h; omega, fun h => by have : x + (o + 2) = x := h; omega⟩ (fun r hr => by have : r = x := hr; omega)⟩
  · exact (sF_wF_f h3).trans ((sF_wF_f h2).trans (sF_wF_f h1))
  · have e : sF (wF (wF (wF σ (fid 15 8) x v) (fid 15 11) x (x + o)) (fid 15 12) x (x + (25 - o))) (fid 15 8) x = v := (sF_wF_f (by decide)).trans ((sF_wF_f (by decide)).trans sF_wF_eq)
    unfold KAn
    rw [e]
    exact hv.kB hB hQ
  · rcases hoo with rfl | rfl
    · exact Or.inr rfl
    · exact Or.inl rfl
  · have e : sF (wF (wF (wF σ (fid 15 8) x v) (fid 15 11) x (x + o)) (fid 15 12) x (x + (25 - o))) (fid 15 11) x = x + o := (sF_wF_f (by decide)).trans sF_wF_eq
    rw [e]
    omega
  · exact sF_wF_eq
/-- a state with another book -/
theorem cx_newState {x now b : Nat} {H : List As} {A : As} {ns : List NE} {fs : List FE} {σ : St} (hp : HP (PX x) σ) (hx : XS σ x) (hQ : SQ σ x) (hH : KHis σ x now H) (hA : H[now]? = some A) (hb : KBook σ x b ns fs) {β : Type} {k : St → Option (St × β)} {Q : St → β → Prop}
    (hk : ∀ σ', cW x (s2 x (x + 17)) 2 1 σ σ' → xI [fid 15 14, fid 15 15] x σ σ' → KHis σ' x (if now + 1 < 21 then now + 1 else 20) (chg now H (ns, fs, A.2.2)) → Hx (k σ') Q) :
    Hx (nm (nw 12 0 2 σ) fun σ8 => nm (sz σ) fun a9 => Option.bind (ckK σ8 16 x) fun _ => cb (fX11_present σ8 x) fun σ10 a11 => Option.bind (gF σ10 11 1 a11) fun v13 => Option.bind (ckK σ10 12 a9) fun _ => cb (fX7_init_ σ10 a9 b v13) fun σ14 _ => Option.bind (ckK σ14 16 x) fun _ => cb (fX11_change σ14 x a9) fun σ17 _ => k σ17) Q := by
  have hz := hx.z
  have hF1 := cW.nw (κ := 12) (n := 0) (w := 2) hp (by omega)
  have hx1 := hx.kW hF1
  have cb1 := hF1.toB0 hx
  have hH1 := hH.kW hF1 hx cb1 hQ (fun h => h) (fun h => h)
  obtain ⟨pr, hS1⟩ := hH1.present hx1 hA
  obtain ⟨b1, ra1, f0, f1, _, _, _, _, kr, hi⟩ := hS1.f
  refine hx_nm (hx_nm ?_)
  rw [sm_ckK (show sK (nw 12 0 2 σ) x = 16 from hx1.kd 0 16 (by decide))]
  refine hx_bs ?_
  rw [pr]
  refine hx_cs ?_
  rw [f1]
  refine hx_bs ?_
  rw [sm_ckK st_k]
  refine hx_bs ?_
  rw [cx_stateInit (by omega)]
  refine hx_cs ?_
  have hF2 := stN_W (b := b) (ra := ra1) (cW.rf (S := s0) hp)
  have hx2 := hx.kW hF2
  have cb2 := hF2.toB0 hx
  have hQ2 := hQ.st hF2 hx (fun r hr => hr.elim)
  have hH2 := hH.kW hF2 hx cb2 hQ (fun h => h) (fun h => h)
  obtain ⟨b0, ra0, f00, f01, _, k105, n3, _, kr0, hi0⟩ := (hH.2 now A hA).f
  have era : ra1 = ra0 := by
    have hk12 := (hH.2 now A hA).1.2.1
    have hc := cb1.sam hQ (hH.2 now A hA).1.1 (by omega) (by omega) (Or.inl (by omega))
    have e17 : sQ (nw 12 0 2 σ) (x + 17) now = sQ σ (x + 17) now := if_neg (by omega)
    rw [e17] at f1
    have h1 := (sm_gF (ci := 11) (k := 1) (cb1.kd hk12 (by omega))).symm.trans f1
    have h2 := (sm_gF (ci := 11) (k := 1) hk12).symm.trans f01
    rw [hc.2.1] at h1
    exact (Option.some.inj h1).symm.trans (Option.some.inj h2)
  have hS2 := stN_S (A := (ns, fs, A.2.2)) (b := b) (ra := ra1) hp hx hQ (hH.2 now A hA).1.2.2 hb (by rw [era]; exact kr0) (fun i vs hv => by rw [era]; exact (hi0 i vs hv).2)
  rw [sm_ckK (show sK (stN σ b ra1) x = 16 from hx2.kd 0 16 (by decide))]
  refine hx_bs ?_
  refine Hx.bd (cx_change hF2.hp hx2 hQ2 hH2 hS2) (fun σ3 _ h => ?_)
  obtain ⟨g1, g2, g3⟩ := h
  refine hk σ3 (((hF2.mo (S' := s2 x (x + 17)) (fun r _ h => h.elim) (Nat.le_refl _) (Nat.le_refl _)).tr0 g1 (fun r _ hr => hr)).mo (fun r _ hr => hr) (by omega) (by omega)) ?_ g3
  exact (xI.of (L := []) hF2 hx (fun h => h)).tr g2 (fun f h => by cases h) (fun f h => h)
