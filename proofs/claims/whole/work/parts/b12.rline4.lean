/-! ===== the reference reads a line ===== -/
theorem ry_sum {σ : St} {m vm k0 n i : Nat} {t ps : List Nat} (hn : Ntk t n) (hm : MS σ m) (ht : RTx σ m t) (hp : RPf σ m ps) (hT : TkN σ m t (tk t i)) (h13 : gon (tk t i) → Fi σ m 13 (nI (tkp t (i + 1)))) (h5 : Fi σ m 5 (nI vm)) (h21 : Fi σ m 21 (nI k0)) (hi : i < n) (hk0 : k0 + 205 ≤ 12000) (hv : 600 ≤ vm ∧ vm + 205 ≤ 12600) :
    Hx (fX12_readsSum σ m) (fun σ' v => SumP m t ps k0 vm n σ σ' v (false, [], [], i)) := by
  have r1 : rfM m FW [] nV σ (wI σ (fid 16 30) m (nI 0)) := rfM.wI (by decide)
  have hm1 := r1.ms hm
  rw [n_fX12_readsSum, rf_pI hm]
  refine hx_bs ?_
  rw [rf_pI hm1]
  refine hx_bs ?_
  obtain ⟨T, hT'⟩ : ∃ T, T = wI (wI σ (fid 16 30) m (nI 0)) (fid 16 31) m (nI 0) := ⟨_, rfl⟩
  have rT : rfM m FW [] nV σ T := by rw [hT']; exact r1.tr (rfM.wI (by decide))
  have t30 : Fi T m 30 (nI 0) := by rw [hT']; exact fi_wn fi_wI (by decide)
  have t31 : Fi T m 31 (nI 0) := by rw [hT']; exact fi_wI
  have t21 : Fi T m 21 (nI k0) := by rw [hT']; exact fi_wn (fi_wn h21 (by decide)) (by decide)
  have qT : Yr m k0 σ T := ⟨rT.mo ⟨fun _ q => q, fun _ q => (by cases q)⟩ (fun _ q => q), Ol.of rT (by decide)⟩
  rw [← hT']
  have hs : SyR T m t ps vm k0 vm n (false, [], [], i) := by
    refine ⟨⟨rT.ms hm, qT.tx ht, qT.pf hp, hT.keep rT (by decide), fun q => qT.fi (h13 q) (by omega), qT.fi h5 (by omega)⟩, ⟨⟨True.intro, by show 0 ≤ 205; omega, by show k0 + 0 + 0 ≤ 12000; omega⟩, ⟨t30, t31, t21⟩, by show k0 + 0 ≤ 12000; omega, fun j it h => (by cases h)⟩, hi, by show 0 + 0 ≤ i; omega, fun w hw => (by cases hw), ⟨hv.1, Nat.le_refl _⟩, by show vm ≤ vm + i; omega⟩
  have hl := ht.1.2
  have hnl := hn.le
  refine (ry_sum_12 hn hl hk0 hv.2 FU (false, [], [], i) vm T (by show n - i + 1 < 4294967296; omega) hs).mo (fun σ2 v g => ?_)
  obtain ⟨g1, g2⟩ := g
  exact ⟨qT.ry.tr g1, g2⟩
abbrev FLN : List Nat := [5, 10, 11, 12, 13, 14, 15, 16, 21, 30, 31, 32, 33, 34, 35]
abbrev ALN : List Nat := [1, 2, 6, 7, 8, 9, 13, 14, 15, 16, 17]
def LineR (m k0 v0 : Nat) (σ σ' : St) : Prop := rfM m FLN ALN (fun j => v0 ≤ j) σ σ' ∧ Ol m k0 σ σ'
theorem LineR.tr {m k0 v0 : Nat} {σ σ1 σ2 : St} (h1 : LineR m k0 v0 σ σ1) (h2 : LineR m k0 v0 σ1 σ2) : LineR m k0 v0 σ σ2 := ⟨h1.1.tr h2.1, h1.2.tr h2.2⟩
theorem RY.ln {m k0 v0 : Nat} {σ σ' : St} (h : RY m k0 v0 σ σ') : LineR m k0 v0 σ σ' := ⟨h.1.mo ⟨by decide, by decide⟩ (fun _ q => q), h.2⟩
theorem ln_FH {m k0 v0 : Nat} {σ σ' : St} (h : rfM m FH [] nV σ σ') : LineR m k0 v0 σ σ' := ⟨h.mo ⟨by decide, by decide⟩ (fun _ q => q.elim), Ol.of h (by decide)⟩
theorem ln_F17 {m k0 v0 : Nat} {σ σ' : St} (h : rfM m FT [17] nV σ σ') : LineR m k0 v0 σ σ' := ⟨h.mo ⟨by decide, by decide⟩ (fun _ q => q.elim), Ol.of h (by decide)⟩
/-- what stands when a line is read -/
def LineP (m : Nat) (t : List Nat) (k0 v0 n : Nat) (σ σ' : St) (v : Int32) : Prop := LineR m k0 v0 σ σ' ∧ MS σ' m ∧ ∃ r, Rdd t r ∧ match r with
  | .inl j => v = nI 0 ∧ TkN σ' m t (tk t j)
  | .inr L => v = nI 1 ∧ L.length ≤ n ∧ (Fi σ' m 32 (nI (frm t)) ∧ (frm t ≠ 0 → Fi σ' m 33 (nI (tk t 0).2.1) ∧ Fi σ' m 34 (nI (tk t 0).2.2.1) ∧ ∃ i ps, hdf t = .inr (i, ps) ∧ Fi σ' m 35 (nI ps.length))) ∧ ∃ vm', (600 ≤ vm' ∧ v0 ≤ vm' ∧ vm' ≤ v0 + n) ∧ Fi σ' m 5 (nI vm') ∧ Its σ' m vm' k0 L ∧ Fi σ' m 21 (nI (k0 + L.length))
theorem ry_33 {σ0 σ : St} {m vm k0 n i : Nat} {t ps : List Nat} (hn : Ntk t n) (hd : hdf t = .inr (i, ps)) (hR : LineR m k0 vm σ0 σ) (hm : MS σ m) (ht : RTx σ m t) (hp : RPf σ m ps) (hT : TkN σ m t (tk t i)) (h13 : gon (tk t i) → Fi σ m 13 (nI (tkp t (i + 1)))) (h5 : Fi σ m 5 (nI vm)) (h21 : Fi σ m 21 (nI k0)) (hi : i < n) (hk0 : k0 + 205 ≤ 12000) (hv : 600 ≤ vm ∧ vm + 205 ≤ 12600)
    (h32 : Fi σ m 32 (nI (frm t))) (hh : frm t ≠ 0 → Fi σ m 33 (nI (tk t 0).2.1) ∧ Fi σ m 34 (nI (tk t 0).2.2.1) ∧ Fi σ m 35 (nI ps.length)) : Hx (fX12_readsLine_33 σ m) (fun σ' v => LineP m t k0 vm n σ0 σ' v) := by
  rw [n_fX12_readsLine_33, rf_ck hm]
  refine hx_bs ?_
  refine Hx.bd (ry_sum hn hm ht hp hT h13 h5 h21 hi hk0 hv) (fun σ1 v h => ?_)
  obtain ⟨q1, e, q2, q3, q4⟩ := h
  have hrd : Rdd t e := by
    unfold Rdd
    rw [hd]
    exact q2
  cases e with
  | inl j =>
    obtain ⟨rfl, q5⟩ := q4
    rw [ckZ0]
    exact hx_bs (Hx.ret ⟨hR.tr q1.ln, q3, _, hrd, rfl, q5⟩)
  | inr L =>
    obtain ⟨rfl, q5, q6⟩ := q4
    rw [ckZ1]
    refine hx_bs (Hx.ret ⟨hR.tr q1.ln, q3, _, hrd, rfl, q5, ⟨h32.keep q1.1 (by decide), fun q => ?_⟩, q6⟩)
    obtain ⟨u1, u2, u3⟩ := hh q
    exact ⟨u1.keep q1.1 (by decide), u2.keep q1.1 (by decide), i, ps, hd, u3.keep q1.1 (by decide)⟩
theorem ry_line {σ : St} {m vm k0 n : Nat} {t : List Nat} (hn : Ntk t n) (hm : MS σ m) (ht : RTx σ m t) (h5 : Fi σ m 5 (nI vm)) (h21 : Fi σ m 21 (nI k0)) (hk0 : k0 + 205 ≤ 12000) (hv : 600 ≤ vm ∧ vm + 205 ≤ 12600) :
    Hx (fX12_readsLine σ m) (fun σ' v => LineP m t k0 vm n σ σ' v) := by
  have n0 : 0 < n := hn.1
  rw [n_fX12_readsLine, rf_ck hm]
  refine hx_bs ?_
  refine Hx.bd (rh_isTelling hm ht) (fun σ1 v h => ?_)
  obtain ⟨r1, h1⟩ := h
  have hm1 := r1.ms hm
  have ht1 : RTx σ1 m t := ht.keep r1 (by decide) (by decide)
  have l1 : LineR m k0 vm σ σ1 := ln_FH r1
  have f5 := h5.keep r1 (by decide)
  have f21 := h21.keep r1 (by decide)
  rcases h1 with ⟨rfl, h0⟩ | ⟨rfl, h0, h32, h33, h34, h351, h352⟩
  · refine Hx.ce rfl (fun _ => ?_) (fun q => absurd rfl q)
    rw [rf_pI hm1]
    refine hx_bs ?_
    have r2 : rfM m FH [] nV σ1 (wI σ1 (fid 16 32) m (nI 0)) := rfM.wI (by decide)
    have hm2 := r2.ms hm1
    rw [rf_pI hm2]
    refine hx_bs ?_
    have r3 : rfM m FH [] nV (wI σ1 (fid 16 32) m (nI 0)) (wI (wI σ1 (fid 16 32) m (nI 0)) (fid 16 13) m (nI 0)) := rfM.wI (by decide)
    have hm3 := r3.ms hm2
    rw [rf_ck hm3]
    refine hx_bs ?_
    refine Hx.bd (rt_next (i := 0) hm3 ((ht1.keep r2 (by decide) (by decide)).keep r3 (by decide) (by decide)) fi_wI) (fun σ4 _ h => ?_)
    obtain ⟨r4, t4, m4, k4, a4⟩ := h
    have x32 : Fi σ4 m 32 (nI 0) := Fi.keep (fi_wn fi_wI (by decide)) r4 (by decide)
    have hd : hdf t = .inr (0, []) := by unfold hdf; rw [if_pos h0]
    refine ry_33 (i := 0) (ps := []) hn hd (l1.tr (ln_FH ((r2.tr r3).tr (rfM.FT r4)))) m4 t4 ⟨⟨fun k w hk => (by cases hk), by show 0 ≤ 4; omega⟩, fun j k w hk => (by cases hk), Or.inr ⟨0, by omega, x32, rfl⟩⟩ k4 a4 (((f5.keep r2 (by decide)).keep r3 (by decide)).keep r4 (by decide)) (((f21.keep r2 (by decide)).keep r3 (by decide)).keep r4 (by decide)) n0 hk0 hv (by rw [h0]; exact x32) (fun q => absurd h0 q)
  · refine Hx.ce (sm_eq (by omega) (by omega)) (fun q => absurd q (by omega)) (fun _ => ?_)
    rw [rf_ck hm1]
    refine hx_bs ?_
    refine Hx.bd (rh_head hm1 ht1 h0 h32 h352) (fun σ2 v h => ?_)
    obtain ⟨r2, h2⟩ := h
    have hm2 := r2.ms hm1
    have l2 : LineR m k0 vm σ σ2 := l1.tr (ln_F17 r2)
    have hfb := frm_b t
    cases hd : hdf t with
    | inl i =>
      rw [hd] at h2
      obtain ⟨rfl, h3⟩ := h2
      refine Hx.ce rfl (fun _ => ?_) (fun q => absurd rfl q)
      refine Hx.ret ⟨l2, hm2, .inl i, ?_, rfl, h3⟩
      unfold Rdd
      rw [hd]
    | inr p =>
      obtain ⟨i, ps⟩ := p
      rw [hd] at h2
      obtain ⟨rfl, h3, h4, h5', h6⟩ := h2
      refine Hx.ce (sm_eq (by omega) (by omega)) (fun q => absurd q (by omega)) (fun _ => ?_)
      have x32 := h32.keep r2 (by decide)
      have key : i < n ∧ (∀ x y w : Nat, ps[x]? = some w → ps[y]? = some w → x = y) ∧ Fi σ2 m 35 (nI ps.length) ∧ (frm t = 2 ∨ (frm t = 1 ∧ ps = [])) := by
        by_cases c : frm t = 1
        · have hd' := hd
          unfold hdf at hd'
          rw [if_neg (by omega), if_pos c] at hd'
          have hd' := Sum.inr.inj hd'
          have ei : 2 = i := congrArg Prod.fst hd'
          have ep : [] = ps := congrArg Prod.snd hd'
          obtain ⟨k1, k2⟩ := frm_1 c
          have n1 : 1 < n := hn.nx n0 ⟨by omega, by omega⟩
          have n2 : 2 < n := hn.nx (i := 1) n1 ⟨by omega, by omega⟩
          subst ep
          exact ⟨by omega, fun x y w q => (by cases q), (h351 c).keep r2 (by decide), Or.inr ⟨c, rfl⟩⟩
        · have c2 : frm t = 2 := by omega
          have hd' := hd
          unfold hdf at hd'
          rw [if_neg (by omega), if_neg c] at hd'
          obtain ⟨k1, k2, a, k3⟩ := frm_2 c2
          have n1 : 1 < n := hn.nx n0 ⟨by omega, by omega⟩
          have n2 : 2 < n := hn.nx (i := 1) n1 ⟨by omega, by omega⟩
          obtain ⟨e1, e2, e3, e4⟩ := hdp_of hn 5 2 300 [] n2 k3 hd' (fun x y w q => (by cases q))
          obtain ⟨c', g1, g2⟩ := h352 a c2 k3
          have e3 : 2 + 2 * ps.length = a + 2 + 2 * 0 := e3
          have el : ps.length = c' + 1 := by omega
          rw [el]
          exact ⟨e2, e4, g2.keep r2 (by decide), Or.inl c2⟩
      obtain ⟨k1, k2, k3, k4⟩ := key
      refine ry_33 hn hd l2 hm2 (ht1.keep r2 (by decide) (by decide)) ⟨⟨h5', h6⟩, k2, ?_⟩ h3 h4 (f5.keep r2 (by decide)) (f21.keep r2 (by decide)) k1 hk0 hv x32 (fun _ => ⟨h33.keep r2 (by decide), h34.keep r2 (by decide), k3⟩)
      rcases k4 with k4 | ⟨k4, k5⟩
      · rw [k4] at x32
        exact Or.inl ⟨x32, k3⟩
      · rw [k4] at x32
        exact Or.inr ⟨1, by omega, x32, k5⟩
