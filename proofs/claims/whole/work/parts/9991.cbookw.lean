/-! ===== the class' book with what a line tells ===== -/
/-- the names that use a node, in their order -/
noncomputable def usrL (ns : List NE) (fs : List FE) (j : Nat) : List Nat := (List.range ns.length).filter fun i => @decide (∃ e, (Ths ns fs)[i]? = some e ∧ rS (Ths ns fs) e.2.2 j) (Classical.propDecidable _)
theorem usrL_mem {ns : List NE} {fs : List FE} {j i : Nat} : i ∈ usrL ns fs j ↔ i < ns.length ∧ ∃ e, (Ths ns fs)[i]? = some e ∧ rS (Ths ns fs) e.2.2 j := by
  unfold usrL
  rw [List.mem_filter, List.mem_range]
  constructor
  · rintro ⟨h1, h2⟩
    exact ⟨h1, @of_decide_eq_true _ (Classical.propDecidable _) h2⟩
  · rintro ⟨h1, h2⟩
    exact ⟨h1, @decide_eq_true _ (Classical.propDecidable _) h2⟩
theorem rnw_Ths {T : List Th} {fs : List FE} : ∀ {m : Nat} {ns ns' : List NE} {L : List Nat}, rnw T fs m ns L = some (Sum.inr ns') → Ths ns' fs = Ths ns fs := by
  intro m
  induction m with
  | zero =>
    intro ns ns' L h
    unfold rnw at h
    split at h
    · cases h; rfl
    · cases h
  | succ m ih =>
    intro ns ns' L h
    unfold rnw at h
    split at h
    · cases h; rfl
    · obtain ⟨i, hi, h⟩ := Option.bind_eq_some_iff.mp h
      obtain ⟨e, he, h⟩ := Option.bind_eq_some_iff.mp h
      obtain ⟨r, hw, h⟩ := Option.bind_eq_some_iff.mp h
      split at h
      · rw [ih h]
        exact Ths_set he rfl rfl
      · cases h
/-- how telling ends -/
def BWo (σ0 : St) (x k c : Nat) (fs : List FE) (res : Nat ⊕ List NE) (σ' : St) (v : Nat) : Prop := cM x (sW σ0 x 0) k c σ0 σ' ∧ SQ σ' x ∧ match res with
  | Sum.inl w => v = 0 ∧ xI rfL x σ0 σ' ∧ KRef σ' x 9 0 w []
  | Sum.inr ns' => v ≠ 0 ∧ xI [] x σ0 σ' ∧ KBook σ' x v ns' fs
theorem cx_bookWith_57 {x b form w j k c x3 : Nat} {ns : List NE} {fs : List FE} {res : Nat ⊕ List NE} {σ0 σ : St} (hx0 : XS σ0 x) (hQ0 : SQ σ0 x) (hF : cW x s0 k c σ0 σ) (hB : KNew σ0 σ x b ns fs) (hw : w < 2147483648) (hj : ndO ns fs form w = some j)
    (hbd : ∀ e ∈ fs, ∀ it ∈ e.2.2, OkI fs it) (hok : ∀ e ∈ ns, (∀ it ∈ e.2.1, OkI fs it) ∧ hts e.2.1 0 = some 1) (hr : rnw (Ths ns fs) fs 20 ns (usrL ns fs j) = some res) :
    Hx (fX11_bookWith_57 σ x b b b (nI w) (if form = 2 then nI 1 else nI 0)) (BWo σ0 x (k + 380) (c + 120) fs res) := by
  obtain ⟨⟨na, fa, hB1, hn1, hn2⟩, hb, hU⟩ := hB
  have hln := hB1.1.2.2
  have hTl := Ths_len ns fs
  have hjl := ndO_b hj
  have hQ := hQ0.st hF hx0 (fun r hr => hr.elim)
  rw [n_fX11_bookWith_57, sm_ckK hB1.1.2.1]
  refine hx_bs ?_
  rw [cx_node hB1 hw, hj, thn_nI, Nat.zero_add]
  refine hx_cs ?_
  rw [sm_ckK hB1.1.2.1]
  refine hx_bs ?_
  obtain ⟨v, e1, e2⟩ := cb_usersOf hB1 hU (show j < 32 by omega)
  rw [e1]
  refine hx_cs ?_
  have hM := (hF.toM hx0 (fun T hT h => h)).mo (S' := sW σ0 x 0) (fun r _ h => h.elim) (Nat.le_refl _) (Nat.le_refl _)
  have hz0 := hx0.z
  refine Hx.mo (cx_renew_loop hx0 hQ0 ⟨hn1, hn2⟩ hbd 20 FU 0 ns v (usrL ns fs j) res k c σ (by show 20 < 4294967296; omega) (by omega) hr hM hQ (xI.of hF hx0 (fun h => h)) hB1 hU rfl (e2.cg fun i _ => usrL_mem.symm) (fun i hi => (usrL_mem.mp hi).1) (List.Pairwise.filter _ List.pairwise_lt_range) hok) (fun σ' v h => ?_)
  refine ⟨h.1.mo (fun r _ hr => hr) (by omega) (by omega), h.2.1, ?_⟩
  cases res with
  | inl fw => exact h.2.2
  | inr ns' =>
    obtain ⟨q1, q2, q3, q4⟩ := h.2.2
    have e9 : Ths ns' fs = Ths ns fs := rnw_Ths hr
    refine ⟨by rw [q1]; omega, q2, ?_⟩
    rw [q1]
    exact ⟨⟨na, fa, q3⟩, by rw [e9]; exact q4⟩
/-- the line's thing told, made -/
theorem cx_lineTold {x form w wp np v : Nat} {l : List It} {vo : Option Qv} {σ : St} (hp0 : HP (PX x) σ) (hx : XS σ x) (hQ : SQ σ x) (hL : Ln σ x form w wp np l) (hv : match vo with | none => v = 0 | some q => KF σ x v q) {β : Type} {k : St → Option (St × β)} {Q : St → β → Prop}
    (hk : ∀ σ', cW x s0 4 1 σ σ' → KTold σ' x (sz σ) w np l vo → Hx (k σ') Q) :
    Hx (nm (nw 15 0 4 σ) fun σ1 => nm (sz σ) fun a2 => Option.bind (gF σ1 15 17 x) fun v3 => Option.bind (gI σ1 8 14 v3) fun v4 => Option.bind (gF σ1 15 17 x) fun v5 => Option.bind (gI σ1 8 17 v5) fun v6 => Option.bind (gF σ1 15 17 x) fun v7 => Option.bind (gF σ1 8 18 v7) fun v8 => Option.bind (ckK σ1 15 a2) fun _ => cb (fX10_init σ1 a2 v4 v6 v8 v) fun σ9 _ => k σ9) Q := by
  have hz := hx.z
  have hF1 := cW.nw (κ := 15) (n := 0) (w := 4) hp0 (by omega)
  have hx1 := hx.kW hF1
  have cb1 := hF1.toB0 hx
  have hL1 := hL.kW hF1 hx cb1 hQ (fun h => h)
  obtain ⟨l1, l2, l3, l4, l5, l6⟩ := hL1.f hx1
  have k15 : sK (nw 15 0 4 σ) (sz σ) = 15 := tl_k
  refine hx_nm (hx_nm ?_)
  rw [l1]
  refine hx_bs ?_
  rw [l3]
  refine hx_bs (hx_bs ?_)
  rw [l5]
  refine hx_bs (hx_bs ?_)
  rw [l6]
  refine hx_bs ?_
  rw [sm_ckK k15]
  refine hx_bs ?_
  rw [cx_toldInit (by omega) k15]
  refine hx_cs ?_
  have hF4 := tlN_W (w := nI w) (np := nI np) (s := sF (nw 15 0 4 σ) (fid 8 18) (x + 65)) (v := v) hF1 (Nat.le_refl _) k15
  have cb4 := hF4.toB0 hx
  have hsum : sF (nw 15 0 4 σ) (fid 8 18) (x + 65) = sF σ (fid 8 18) (x + 65) := if_neg (by omega)
  obtain ⟨_, ⟨_, q2⟩, _, ⟨_, q4⟩, q5⟩ := id hL
  refine hk _ (hF4.mo (fun _ _ h => h) (by omega) (by omega)) (tlN_T hz k15 (by omega) q4 (by have h9 := q5.kB cb4 hQ; rw [← hsum] at h9; exact h9) ?_)
  cases vo with
  | none => exact hv
  | some q => exact KF.kB hv cb4 hQ
/-- a line that tells a name -/
theorem cx_bookWithN {x now w wp v p j : Nat} {H : List As} {A : As} {l : List It} {q : Qv} {res : Nat ⊕ List NE} {σ : St} (hp0 : HP (PX x) σ) (hx : XS σ x) (hQ : SQ σ x) (hH : KHis σ x now H) (hA : H[now]? = some A) (hL : Ln σ x 1 w wp 0 l) (hv : KF σ x v q)
    (hw : ∀ e ∈ A.1, 0 < e.1 ∧ e.1 < 387420489) (hw2 : ∀ e ∈ A.2.1, 0 < e.1 ∧ e.1 < 387420489) (hw0 : 0 < w) (hp : Plc (A.1.map (·.1)) w p) (hl : A.1.length + isN (·.1) A.1 p w ≤ 20) (hN : Nod (plL A.1 p (isN (·.1) A.1 p w) (w, l, q)) A.2.1) (hkw : ∀ e ∈ A.2.1, known e.1 = 0)
    (hbd : ∀ e ∈ A.2.1, ∀ it ∈ e.2.2, OkI A.2.1 it) (hok : ∀ e ∈ plL A.1 p (isN (·.1) A.1 p w) (w, l, q), (∀ it ∈ e.2.1, OkI A.2.1 it) ∧ hts e.2.1 0 = some 1) (hj : ndO (plL A.1 p (isN (·.1) A.1 p w) (w, l, q)) A.2.1 1 w = some j)
    (hr : rnw (Ths (plL A.1 p (isN (·.1) A.1 p w) (w, l, q)) A.2.1) A.2.1 20 (plL A.1 p (isN (·.1) A.1 p w) (w, l, q)) (usrL (plL A.1 p (isN (·.1) A.1 p w) (w, l, q)) A.2.1 j) = some res) :
    Hx (fX11_bookWith σ x v) (BWo σ x 490 130 A.2.1 res) := by
  have hwl := hL.2.1.2
  have hv0 : v ≠ 0 := by
    rcases hv.1 with h | h <;> omega
  rw [n_fX11_bookWith]
  refine cx_lineTold (vo := some q) hp0 hx hQ hL hv (fun σ9 hF9 hT => ?_)
  have hx9 := hx.kW hF9
  have cb9 := hF9.toB0 hx
  have hQ9 := hQ.st hF9 hx (fun r hr => hr.elim)
  have hH9 := hH.kW hF9 hx cb9 hQ (fun h => h) (fun h => h)
  obtain ⟨pr, hS⟩ := hH9.present hx9 hA
  obtain ⟨b, ra, f0, f1, _, _, _, ⟨⟨na, fa, hB⟩, hU⟩, _⟩ := hS.f
  rw [sm_ckK (show sK σ9 x = 16 from hx9.kd 0 16 (by decide))]
  refine hx_bs ?_
  rw [pr]
  refine hx_cs ?_
  rw [f0]
  refine hx_bs ?_
  rw [sm_ckK hB.1.2.1]
  refine hx_bs ?_
  refine Hx.bd (cb_withName hF9.hp hx9 hQ9 hB hT hw hw2 ⟨hw0, hwl⟩ hp hl hN hkw) (fun σ2 b2 h => ?_)
  obtain ⟨hF2, hB2⟩ := h
  have hT2 := hT.kB (hF2.toB0 hx9) hQ9
  rw [hT2.k.1]
  refine hx_bs ?_
  rw [if_neg hv0]
  have hFF := hF9.tr hF2 (fun r _ hr => hr)
  have hB3 : KNew σ σ2 x b2 (plL A.1 p (isN (·.1) A.1 p w) (w, l, q)) A.2.1 := by
    obtain ⟨⟨n1, n2, n3, n4, n5⟩, n6, n7⟩ := hB2
    have := hF9.2.1.1
    exact ⟨⟨n1, n2, n3, by omega, n5⟩, by omega, n7⟩
  have := cx_bookWith_57 (x3 := 0) (form := 1) hx hQ hFF hB3 (show w < 2147483648 by omega) hj hbd hok hr
  rw [if_neg (by omega)] at this
  refine Hx.mo this (fun σ' v h => ?_)
  exact ⟨h.1.mo (fun r _ hr => hr) (by omega) (by omega), h.2⟩
/-- a line that tells a function -/
theorem cx_bookWithF {x now w wp np p j : Nat} {H : List As} {A : As} {l : List It} {res : Nat ⊕ List NE} {σ : St} (hp0 : HP (PX x) σ) (hx : XS σ x) (hQ : SQ σ x) (hH : KHis σ x now H) (hA : H[now]? = some A) (hL : Ln σ x 2 w wp np l) (hnp : 0 < np)
    (hw : ∀ e ∈ A.1, 0 < e.1 ∧ e.1 < 387420489) (hw2 : ∀ e ∈ A.2.1, 0 < e.1 ∧ e.1 < 387420489) (hw0 : 0 < w) (hp : Plc (A.2.1.map (·.1)) w p) (hl : A.2.1.length + isN (·.1) A.2.1 p w ≤ 10) (hN : Nod A.1 (plL A.2.1 p (isN (·.1) A.2.1 p w) (w, np, l))) (hkw : ∀ e ∈ plL A.2.1 p (isN (·.1) A.2.1 p w) (w, np, l), known e.1 = 0)
    (hbd : ∀ e ∈ plL A.2.1 p (isN (·.1) A.2.1 p w) (w, np, l), ∀ it ∈ e.2.2, OkI (plL A.2.1 p (isN (·.1) A.2.1 p w) (w, np, l)) it) (hok : ∀ e ∈ A.1, (∀ it ∈ e.2.1, OkI (plL A.2.1 p (isN (·.1) A.2.1 p w) (w, np, l)) it) ∧ hts e.2.1 0 = some 1) (hj : ndO A.1 (plL A.2.1 p (isN (·.1) A.2.1 p w) (w, np, l)) 2 w = some j)
    (hr : rnw (Ths A.1 (plL A.2.1 p (isN (·.1) A.2.1 p w) (w, np, l))) (plL A.2.1 p (isN (·.1) A.2.1 p w) (w, np, l)) 20 A.1 (usrL A.1 (plL A.2.1 p (isN (·.1) A.2.1 p w) (w, np, l)) j) = some res) :
    Hx (fX11_bookWith σ x 0) (BWo σ x 490 130 (plL A.2.1 p (isN (·.1) A.2.1 p w) (w, np, l)) res) := by
  have hwl := hL.2.1.2
  rw [n_fX11_bookWith]
  refine cx_lineTold (vo := none) hp0 hx hQ hL rfl (fun σ9 hF9 hT => ?_)
  have hx9 := hx.kW hF9
  have cb9 := hF9.toB0 hx
  have hQ9 := hQ.st hF9 hx (fun r hr => hr.elim)
  have hH9 := hH.kW hF9 hx cb9 hQ (fun h => h) (fun h => h)
  obtain ⟨pr, hS⟩ := hH9.present hx9 hA
  obtain ⟨b, ra, f0, f1, _, _, _, ⟨⟨na, fa, hB⟩, hU⟩, _⟩ := hS.f
  rw [sm_ckK (show sK σ9 x = 16 from hx9.kd 0 16 (by decide))]
  refine hx_bs ?_
  rw [pr]
  refine hx_cs ?_
  rw [f0]
  refine hx_bs ?_
  rw [sm_ckK hB.1.2.1]
  refine hx_bs ?_
  refine Hx.bd (cb_withFun hF9.hp hx9 hQ9 hB hT hnp hw hw2 ⟨hw0, hwl⟩ hp hl hN hkw) (fun σ2 b2 h => ?_)
  obtain ⟨hF2, hB2⟩ := h
  have hT2 := hT.kB (hF2.toB0 hx9) hQ9
  rw [hT2.k.1]
  refine hx_bs ?_
  rw [if_pos rfl]
  have hFF := hF9.tr hF2 (fun r _ hr => hr)
  have hB3 : KNew σ σ2 x b2 A.1 (plL A.2.1 p (isN (·.1) A.2.1 p w) (w, np, l)) := by
    obtain ⟨⟨n1, n2, n3, n4, n5⟩, n6, n7⟩ := hB2
    have := hF9.2.1.1
    exact ⟨⟨n1, n2, n3, by omega, n5⟩, by omega, n7⟩
  have := cx_bookWith_57 (x3 := 0) (form := 2) hx hQ hFF hB3 (show w < 2147483648 by omega) hj hbd hok hr
  rw [if_pos rfl] at this
  refine Hx.mo this (fun σ' v h => ?_)
  exact ⟨h.1.mo (fun r _ hr => hr) (by omega) (by omega), h.2⟩
