/-! ===== the reference's run ===== -/
theorem rf_run_55 {σ : St} {m vm form w wp np n : Nat} {c : Rct} {s : Rst} {A : As} {L : List It} {oc : Ocm} (h : RC σ m c s) (hT : Bti A s.2.2.2.2.2.2.2.1) (hA : Bkx A) (hR : RunR A form w wp np L oc) (hrg : ∀ form w, Rng A form w L)
    (h0 : Fi σ m 0 (nI 0)) (h9 : Fi σ m 9 (iz (-1))) (h8 : Fi σ m 8 (nI 0)) (h25 : Fi σ m 25 (nI c.2.2)) (h5 : Fi σ m 5 (nI vm)) (h21 : Fi σ m 21 (nI (c.2.1 + L.length))) (hI : Its σ m vm c.2.1 L)
    (h32 : Fi σ m 32 (nI form)) (hf : form ≤ 2) (hh : form ≠ 0 → Fi σ m 33 (nI w) ∧ Fi σ m 34 (nI wp) ∧ Fi σ m 35 (nI np) ∧ Wok w ∧ wp ≤ 200) (hnp : np ≤ 4 ∧ (form ≠ 2 → np = 0)) (hL : L.length ≤ n) (hv : 600 ≤ vm ∧ c.1 ≤ vm ∧ vm ≤ c.1 + n) (hb : c.1 + n + 25 ≤ 12600 ∧ c.2.1 + n ≤ 12000 ∧ c.2.2 + 1 ≤ 600 ∧ 600 ≤ c.1) :
    Hx (fX12_run_55 σ m (nI c.2.1) (nI c.1) (nI 1)) (fun σ' v => rfE m σ σ' ∧ RunO m c s form n oc σ' v) := by
  have hm := h.1
  obtain ⟨v0, k0, dn⟩ := c
  have hdn : dn < 600 := by have : dn + 1 ≤ 600 := hb.2.2.1; show dn < 600; omega
  obtain ⟨σa, ea⟩ : ∃ s, s = wA σ (m + 10) dn (nI k0) := ⟨_, rfl⟩
  have wa : rfM m [25] [10, 11, 12] nV σ σa := by rw [ea]; exact rfM.wA (by simp) (by omega)
  have ka : Kp m v0 k0 dn σ σa := by rw [ea]; exact Kp.wa (by omega)
  have hma := wa.ms hm
  obtain ⟨σb, eb⟩ : ∃ s, s = wA σa (m + 11) dn (nI (k0 + L.length)) := ⟨_, rfl⟩
  have wb : rfM m [25] [10, 11, 12] nV σa σb := by rw [eb]; exact rfM.wA (by simp) (by omega)
  have kb : Kp m v0 k0 dn σa σb := by rw [eb]; exact Kp.wa (by omega)
  have hmb := wb.ms hma
  obtain ⟨σc, ec⟩ : ∃ s, s = wA σb (m + 12) dn (nI np) := ⟨_, rfl⟩
  have wc : rfM m [25] [10, 11, 12] nV σb σc := by rw [ec]; exact rfM.wA (by simp) (by omega)
  have kc : Kp m v0 k0 dn σb σc := by rw [ec]; exact Kp.wa (by omega)
  have hmc := wc.ms hmb
  obtain ⟨σd, ed⟩ : ∃ s, s = wI σc (fid 16 25) m (nI (dn + 1)) := ⟨_, rfl⟩
  have wd : rfM m [25] [] nV σc σd := by rw [ed]; exact rfM.wI (by simp)
  have kd : Kp m v0 k0 dn σc σd := Kp.of wd (by decide) (fun _ _ _ z => z)
  have hmd := wd.ms hmc
  have all : rfM m [25] [10, 11, 12] nV σ σd := wa.tr (wb.tr (wc.tr (wd.mo ⟨by decide, by decide⟩ (fun _ q => q))))
  have kall : Kp m v0 k0 dn σ σd := ka.tr (kb.tr (kc.tr kd))
  have b25 : Fi σb m 25 (nI dn) := by rw [eb, ea]; exact fi_wA (fi_wA h25)
  have b21 : Fi σa m 21 (nI (k0 + L.length)) := by rw [ea]; exact fi_wA h21
  have a25 : Fi σa m 25 (nI dn) := by rw [ea]; exact fi_wA h25
  have b32 : Fi σb m 32 (nI form) := by rw [eb, ea]; exact fi_wA (fi_wA h32)
  have c25 : Fi σc m 25 (nI dn) := by rw [ec]; exact fi_wA b25
  have d25 : Fi σd m 25 (nI (dn + 1)) := by rw [ed]; exact fi_wI
  have d12 : sA σd (m + 12) dn = nI np := by rw [wd.ar 12 ⟨by decide, by omega, by omega⟩, ec]; exact sA_wA_eq
  have d11 : sA σd (m + 11) dn = nI (k0 + L.length) := by
    rw [wd.ar 11 ⟨by decide, by omega, by omega⟩, ec, sA_wA_b (by omega), eb]; exact sA_wA_eq
  have d10 : sA σd (m + 10) dn = nI k0 := by
    rw [wd.ar 10 ⟨by decide, by omega, by omega⟩, ec, sA_wA_b (by omega), eb, sA_wA_b (by omega), ea]; exact sA_wA_eq
  have hb1 : v0 + n + 25 ≤ 12600 ∧ k0 + n ≤ 12000 ∧ dn + 1 ≤ 600 ∧ 600 ≤ v0 := hb
  have hv1 : 600 ≤ vm ∧ v0 ≤ vm ∧ vm ≤ v0 + n := hv
  have hDn : Dfn σd m vm dn L np := ⟨hdn, hnp.1, k0, d10, d11, d12, hI.keepM all (by decide) (fun _ _ _ z => z)⟩
  have go : Hx (fX12_run_113 σb m (nI k0) (nI v0) (m + 12) (nI dn) (nI np)) (fun σ' v => rfE m σ σ' ∧ RunO m (v0, k0, dn) s form n oc σ' v) := by
    rw [n_fX12_run_113, st_defPar hmb hdn, ← ec]
    refine hx_bs ?_
    rw [fi_g hmc c25]
    refine hx_bs ?_
    rw [sm_add, rf_pI hmc, ← ed]
    refine hx_bs ?_
    rw [fi_g hmd d25]
    refine hx_bs ?_
    rw [rf_ck hmd]
    refine hx_bs ?_
    rw [sm_sub (by omega), Nat.add_sub_cancel]
    have hfin := rf_run_do (c := (v0, k0, dn)) (k1 := k0 + L.length) (n := n) (RC.keep (c := (v0, k0, dn)) h all kall ⟨by decide, by decide⟩ (fun _ _ _ z => z)) hT hA hR hrg (h0.keep all (by decide)) (h9.keep all (by decide)) (h8.keep all (by decide)) d25 (h5.keep all (by decide)) (h21.keep all (by decide)) hDn d11 ⟨Nat.le_add_right _ _, by show k0 + L.length ≤ 12000; omega, by show k0 + L.length ≤ k0 + n; omega⟩ (h32.keep all (by decide)) hf (fun q => by
      obtain ⟨u1, u2, u3, u4⟩ := hh q
      exact ⟨u1.keep all (by decide), u2.keep all (by decide), u3.keep all (by decide), u4⟩) hnp hv ⟨hb1.1, hb1.2.2.1, hb1.2.2.2⟩
    exact hfin.mo (fun σ' v g => ⟨all.1.tr g.1, g.2⟩)
  rw [n_fX12_run_55, rf_ck hm]
  refine hx_bs ?_
  rw [rf_fails1 hm h0]
  refine hx_cs (Hx.ce rfl (fun _ => ?_) (fun z => absurd rfl z))
  rw [rf_defStart hm]
  refine hx_bs ?_
  rw [fi_g hm h25]
  refine hx_bs ?_
  rw [st_defStart hm hdn, ← ea]
  refine hx_bs ?_
  rw [rf_defEnd hma]
  refine hx_bs ?_
  rw [fi_g hma a25]
  refine hx_bs ?_
  rw [fi_g hma b21]
  refine hx_bs ?_
  rw [st_defEnd hma hdn, ← eb]
  refine hx_bs ?_
  rw [rf_defPar hmb]
  refine hx_bs ?_
  rw [fi_g hmb b25]
  refine hx_bs ?_
  rw [fi_g hmb b32]
  refine hx_bs (Hx.ce (sm_eq (by omega) (by omega)) (fun z => ?_) (fun z => ?_))
  · obtain ⟨_, _, u3, _⟩ := hh (by omega)
    have b35 : Fi σb m 35 (nI np) := by rw [eb, ea]; exact fi_wA (fi_wA u3)
    rw [fi_g hmb b35]
    exact hx_bs go
  · have := hnp.2 z
    subst this
    exact go
theorem rf_run {σ : St} {m : Nat} {c : Rct} {s : Rst} {A : As} {E : Evt} (h : RI σ m c s) (hT : Bti A s.2.2.2.2.2.2.2.1) (hA : Bkx A) (hE : Ev A s.1 E) (hb : c.1 + 230 ≤ 12600 ∧ c.2.1 + 205 ≤ 12000 ∧ c.2.2 + 1 ≤ 600) : Hx (fX12_run σ m) (RunQ m c s E σ) := by
  obtain ⟨⟨hm, ht, h9, hRf⟩, _, _, ⟨h5, h21, h25⟩, hl1, hl2⟩ := id h
  have htl := ht.1.2
  obtain ⟨n, hn⟩ := Ntk.ex s.1
  have hnl := hn.le
  obtain ⟨σ1, e1⟩ : ∃ s, s = wI σ (fid 16 0) m (nI 0) := ⟨_, rfl⟩
  have w1 : rfM m [0] [] nV σ σ1 := by rw [e1]; exact rfM.wI (by simp)
  have hm1 := w1.ms hm
  have f0 : Fi σ1 m 0 (nI 0) := by rw [e1]; exact fi_wI
  have hK1 : Kp m c.1 c.2.1 c.2.2 σ σ1 := Kp.of w1 (by decide) (fun _ _ _ z => z)
  rw [n_fX12_run, rf_pI hm, ← e1]
  refine hx_bs ?_
  rw [fi_g hm1 (h21.keep w1 (by decide))]
  refine hx_bs ?_
  rw [fi_g hm1 (h5.keep w1 (by decide))]
  refine hx_bs ?_
  rw [rf_ck hm1]
  refine hx_bs ?_
  refine Hx.bd (ry_line hn hm1 (ht.keep w1 (by decide) (by decide)) (h5.keep w1 (by decide)) (h21.keep w1 (by decide)) hb.2.1 ⟨hl1, by omega⟩) (fun σ4 v5 g => ?_)
  obtain ⟨hLR, hm4, r, hr, g⟩ := g
  have hK4 : Kp m c.1 c.2.1 c.2.2 σ σ4 := hK1.tr (Kp.ln hLR)
  have r4 : rfM m (0 :: FLN) ALN (fun j => c.1 ≤ j) σ σ4 := (w1.mo ⟨by decide, by decide⟩ (fun _ q => q.elim)).tr (hLR.1.mo ⟨by decide, by decide⟩ (fun _ q => q))
  have hC4 : RC σ4 m c s := h.core.keep r4 hK4 ⟨by decide, by decide⟩ (fun i h1 h2 z => by omega)
  have f04 := f0.keep hLR.1 (by decide)
  have h254 := h25.keep r4 (by decide)
  cases r with
  | inl j =>
    obtain ⟨rfl, hTk⟩ := g
    refine Hx.ce rfl (fun _ => ?_) (fun z => absurd rfl z)
    rw [fi_g hm4 hTk.2.1]
    refine hx_bs ?_
    refine (rf_run_err hC4 f04 h254 ⟨hl1, hl2.1, hl2.2.1, hl2.2.2⟩).mo (fun σ' v g => ?_)
    obtain ⟨g1, g2, g3, g4⟩ := g
    refine ⟨r4.1.tr g1, ?_⟩
    cases E with
    | inl i =>
      have hi : i = j := Sum.inl.inj (Rdd.det hE hr)
      subst hi
      exact ⟨g2, g3, g4⟩
    | inr p =>
      have := Rdd.det hE.1 hr
      cases this
  | inr L =>
    obtain ⟨rfl, hLn, ⟨h32, hh⟩, vm', ⟨hv1, hv2, hv3⟩, h54, hI, h214⟩ := g
    refine Hx.ce (sm_eq (show 1 < 2147483648 by omega) (by omega)) (fun z => absurd z (by omega)) (fun _ => ?_)
    cases E with
    | inl i =>
      have := Rdd.det hE hr
      cases this
    | inr p =>
    obtain ⟨l, oc⟩ := p
    obtain ⟨hE1, hE2, hE3⟩ := hE
    have : l = L := Sum.inr.inj (Rdd.det hE1 hr)
    subst this
    obtain ⟨σa, ea⟩ : ∃ s, s = wI σ4 (fid 16 9) m (iz (-1)) := ⟨_, rfl⟩
    have wa : rfM m [8, 9] [] nV σ4 σa := by rw [ea]; exact rfM.wI (by simp)
    have hma := wa.ms hm4
    obtain ⟨σb, eb⟩ : ∃ s, s = wI σa (fid 16 8) m (nI 0) := ⟨_, rfl⟩
    have wb : rfM m [8, 9] [] nV σa σb := by rw [eb]; exact rfM.wI (by simp)
    have hmb := wb.ms hma
    have b9 : Fi σb m 9 (iz (-1)) := by rw [eb, ea]; exact fi_wn fi_wI (by decide)
    have b8 : Fi σb m 8 (nI 0) := by rw [eb]; exact fi_wI
    have wab := wa.tr wb
    have hKb : Kp m c.1 c.2.1 c.2.2 σ4 σb := Kp.of wab (by decide) (fun _ _ _ z => z)
    rw [n_fX12_run_33, rf_pI hm4, ← ea]
    refine hx_bs ?_
    rw [rf_pI hma, ← eb]
    refine hx_bs ?_
    refine Hx.ce (sm_eq (show 1 < 2147483648 by omega) (by omega)) (fun z => absurd z (by omega)) (fun _ => ?_)
    have hp4 := prn_4 s.1
    refine (rf_run_55 (n := n) (hC4.keep wab hKb ⟨by decide, by decide⟩ (fun _ _ _ z => z)) hT hA hE2 hE3 (f04.keep wab (by decide)) b9 b8 (h254.keep wab (by decide)) (h54.keep wab (by decide)) (h214.keep wab (by decide)) (hI.keepM wab (by decide) (fun _ _ _ z => z)) (h32.keep wab (by decide)) (frm_b s.1) (fun q => ?_) ⟨hp4.1, hp4.2⟩ hLn ⟨hv1, hv2, hv3⟩ ⟨by omega, by omega, hb.2.2, hl1⟩).mo (fun σ' v g => ?_)
    · obtain ⟨u1, u2, i, ps, u3, u4⟩ := hh q
      have hpe : prn s.1 = ps.length := by unfold prn; rw [u3]
      refine ⟨u1.keep wab (by decide), u2.keep wab (by decide), by rw [hpe]; exact u4.keep wab (by decide), tk_ok (frm_w q), ?_⟩
      have := (tk_b (t := s.1) 0).2.2.2.2.2.2
      omega
    · obtain ⟨g1, g2⟩ := g
      refine ⟨(r4.1.tr wab.1).tr g1, ?_⟩
      cases oc with
      | inl rf => exact g2
      | inr p =>
        obtain ⟨v', A'⟩ := p
        obtain ⟨q1, q2, c', B', q3, q4, q5, q6, q7⟩ := g2
        exact ⟨q1, q2, c', B', q3, q4, ⟨q5.1, by omega⟩, by omega, q7⟩
