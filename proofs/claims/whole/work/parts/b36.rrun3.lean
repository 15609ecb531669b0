/-! ===== the reference's run: all that a line that was read comes to ===== -/
theorem Rng.pm {A B : As} {form w : Nat} {l : List It} (h : Rng A form w l) (hT : Bti A B) (hN : Nod A.1 A.2.1) : ∀ e, thO B.1 B.2.1 form w = some e → Rch (Ths A.1 A.2.1) l e → ∃ rg, rngO (Ths A.1 A.2.1) 30 l e = some rg := by
  intro e he
  refine h e ?_
  rw [← he]
  unfold thO
  rw [show thF A.2.1 w = thF B.2.1 w from (fbm_pm hT.1.2 hT.2.2.2 (Unq.of hN.2) w).symm, show thN A.1 w = thN B.1 w from (fbm_pm hT.1.1 hT.2.2.1 (Unq.of hN.1) w).symm]
theorem fbd_pm {a b : List FE} (h : ∀ e, e ∈ a ↔ e ∈ b) (ha : Unq (a.map (·.1))) (hb : Unq (b.map (·.1))) : fbd a = fbd b := by
  funext w
  exact fbm_pm h ha hb w
theorem Fi.iz1 {σ : St} {m f n : Nat} (h : Fi σ m f (nI n)) : Fi σ m f (iz (n : Int)) := by rw [← sm_iz]; exact h
/-- words of a row where something stands at its place -/
theorem plR_wlen {α : Type} {f : α → Nat} {l : List α} {w : Nat} {x : α} (k : Nat) (hk : k < ((plR l (fix (l.map f) w) x).map f).length) (hn : k ≠ plp l (fix (l.map f) w)) : k < l.length := by
  rw [List.length_map] at hk
  cases ho : fix (l.map f) w with
  | none =>
    rw [ho] at hk hn
    have hk : k < (l ++ [x]).length := hk
    rw [List.length_append, List.length_singleton] at hk
    have hn : k ≠ l.length := hn
    omega
  | some j =>
    rw [ho] at hk
    have hk : k < (l.set j x).length := hk
    rw [List.length_set] at hk
    exact hk
theorem rf_run_do {σ : St} {m vm k1 form w wp np n : Nat} {c : Rct} {s : Rst} {A : As} {L : List It} {oc : Ocm} (h : RC σ m c s) (hT : Bti A s.2.2.2.2.2.2.2.1) (hA : Bkx A) (hR : RunR A form w wp np L oc) (hrg : ∀ form w, Rng A form w L)
    (h0 : Fi σ m 0 (nI 0)) (h9 : Fi σ m 9 (iz (-1))) (h8 : Fi σ m 8 (nI 0)) (h25 : Fi σ m 25 (nI (c.2.2 + 1))) (h5 : Fi σ m 5 (nI vm)) (h21 : Fi σ m 21 (nI k1)) (hD : Dfn σ m vm c.2.2 L np) (hDe : sA σ (m + 11) c.2.2 = nI k1) (hk : c.2.1 ≤ k1 ∧ k1 ≤ 12000 ∧ k1 ≤ c.2.1 + n)
    (h32 : Fi σ m 32 (nI form)) (hf : form ≤ 2) (hh : form ≠ 0 → Fi σ m 33 (nI w) ∧ Fi σ m 34 (nI wp) ∧ Fi σ m 35 (nI np) ∧ Wok w ∧ wp ≤ 200) (hnp : np ≤ 4 ∧ (form ≠ 2 → np = 0)) (hv : 600 ≤ vm ∧ c.1 ≤ vm ∧ vm ≤ c.1 + n) (hb : c.1 + n + 25 ≤ 12600 ∧ c.2.2 + 1 ≤ 600 ∧ 600 ≤ c.1) :
    Hx (cb (fX12_isDone σ m (nI c.2.2)) (rnC m c.2.1 c.1)) (fun σ' v => rfE m σ σ' ∧ RunO m c s form n oc σ' v) := by
  have hm := h.1
  have hN : Nod A.1 A.2.1 := hA.1.1.1
  obtain ⟨hm', hRf, ⟨hAn, hSl, hWr, hSh⟩, c0, U, D, hH, hS, hU, hDD⟩ := id h
  have hcur : Snp σ m c.1 c.2.1 c.2.2 (curR σ m) s.2.2.2.2.2.2.2.1 := hS.rd hH.1.sy
  have hB : Rbk σ m vm s.2.2.2.2.2.2.2.1.1 s.2.2.2.2.2.2.2.1.2.1 := (hcur.up ⟨hv.2.1, by omega⟩ (Nat.le_refl _) ⟨Nat.le_refl _, by omega⟩).B
  have hbb : 600 ≤ c.1 ∧ c.1 ≤ 12600 ∧ c.2.1 ≤ 12000 ∧ c.2.2 ≤ 600 := by omega
  have epm := @rfs_pm A s.2.2.2.2.2.2.2.1 (Ths A.1 A.2.1) form w wp np L hT hN
  have hRef : Hx (fX12_isRefused σ m (nI c.2.2)) (Rfp σ m (rfs s.2.2.2.2.2.2.2.1.1 s.2.2.2.2.2.2.2.1.2.1 (Ths A.1 A.2.1) form w wp np L)) := by
    by_cases c0 : form = 0
    · subst c0
      exact rf_isRefusedZ w wp np hm hB hD h32
    · obtain ⟨u1, u2, u3, u4, u5⟩ := hh c0
      exact rf_isRefused (hA.ok hT) hm hB hD h32 u1 u2 u3 hf (by have := u4.1.2; omega) u5 (by omega) ((hrg form w).pm hT hN)
  have hR0 := hR
  unfold RunR at hR
  have e1 : nvl s.2.2.2.2.2.2.2.1.1 = nvl A.1 := nvl_pm hT.1.1 hT.2.2.1 (Unq.of hN.1)
  have e2 : fbd s.2.2.2.2.2.2.2.1.2.1 = fbd A.2.1 := fbd_pm hT.1.2 hT.2.2.2 (Unq.of hN.2)
  have sh2 : ∀ i, 200 ≤ i → i < 400 → ¬ VW i := fun i h1 h2 z => by have z : i < 200 := z; omega
  refine Hx.bd (rf_isDone_pre (Q := fun σ5 v6 => Hx (rnC m c.2.1 c.1 σ5 v6) (fun σ' v => rfE m σ σ' ∧ RunO m c s form n oc σ' v)) (hA.ok hT) hm hB hD h5 ⟨hv.1, by omega⟩ h32 hf hRef ?_ ?_ ?_) (fun σ5 v6 g => g)
  · intro x σ' hx hr
    rw [epm] at hx
    rw [hx] at hR
    obtain ⟨cc, p, rg⟩ := x
    obtain ⟨_, r, f1, f2, f3, f4, f5, f6⟩ := hr
    have hK : Kp m c.1 c.2.1 c.2.2 σ σ' := Kp.of r (by decide) (fun _ _ _ z => z)
    exact run_bad (r := ((cc : Int), (p : Int), -1, rg)) hR (h.refused ⟨f1.iz1, f2.iz1, f3, f4, f5, f6⟩ r hK ⟨by decide, by decide⟩ (fun _ _ _ z => z)) (h0.keep r (by decide)) (h25.keep r (by decide)) (h9.keep r (by decide)) (h8.keep r (by decide)) hbb r
  · intro hx hf2 σ1 r1
    rw [epm] at hx
    rw [hx] at hR
    subst hf2
    have hR1 : ∃ fs1 res, RunF A w np L fs1 res ∧ oc = ocR A A.1 fs1 none res := by
      rcases hR with ⟨_, q⟩ | ⟨q, _⟩
      · exact q
      · exact absurd rfl q
    obtain ⟨fs1, res, hF, ho⟩ := hR1
    obtain ⟨hnp0, p, rfl, hp, hl, hNod, hkn, hok1, hok2, j, hj, hr⟩ := hF
    obtain ⟨u1, u2, u3, u4, u5⟩ := hh (by omega)
    obtain ⟨⟨t1, t2⟩, t3, t4, t5, t6, t7⟩ := tell_F hA hT u4 hx hp
    have s1 := hA.srt.1
    have hm1 := r1.ms hm
    have hK1 : Kp m c.1 c.2.1 c.2.2 σ σ1 := Kp.of r1 (by decide) (fun _ _ _ z => z)
    have hK2 : ∀ i, 600 ≤ i → i < vm → ¬ nV i := fun _ _ _ z => z
    have hj2 : (Ths A.1 (plL A.2.1 p (isN (·.1) A.2.1 p w) (w, np, L)))[j]? = some (1, w, L) := by
      unfold ndO at hj
      rw [if_pos rfl] at hj
      cases hfx : fix ((plL A.2.1 p (isN (·.1) A.2.1 p w) (w, np, L)).map (·.1)) w with
      | none => rw [hfx] at hj; cases hj
      | some k =>
        rw [hfx] at hj
        have hj : A.1.length + k = j := Option.some.inj hj
        subst hj
        rw [Ths_get, if_neg (by omega), Nat.add_sub_cancel_left, fix_at t1.unq ((t6 _).mpr (Or.inl rfl)) rfl hfx]
        rfl
    have hTR : ∀ e, e ∈ Ths s.2.2.2.2.2.2.2.1.1 (plR s.2.2.2.2.2.2.2.1.2.1 (fix (s.2.2.2.2.2.2.2.1.2.1.map (·.1)) w) (w, np, L)) ↔ e ∈ Ths A.1 (plL A.2.1 p (isN (·.1) A.2.1 p w) (w, np, L)) := by
      intro y
      rw [Ths_mem, Ths_mem]
      constructor
      · rintro (⟨e, h1, h2⟩ | ⟨e, h1, h2⟩)
        · exact Or.inl ⟨e, (hT.1.1 e).mp h1, h2⟩
        · exact Or.inr ⟨e, (t4 e).mp h1, h2⟩
      · rintro (⟨e, h1, h2⟩ | ⟨e, h1, h2⟩)
        · exact Or.inl ⟨e, (hT.1.1 e).mpr h1, h2⟩
        · exact Or.inr ⟨e, (t4 e).mpr h1, h2⟩
    refine (rf_108F (c := c0) (U := U) (D := D) (sts := []) hm1 (hB.keepM r1 (by unfold Rnot; decide) hK2) (h32.keep r1 (by decide)) (u1.keep r1 (by decide)) (by have := u4.1.2; omega) (hD.keepM r1 (by decide) hK2) (hH.keep r1 (by decide) (by decide)) (h5.keep r1 (by decide)) ⟨hv.1, by omega⟩ t5 s1.unq hT.2.2.1 (fbd_pm t4 t2 t1.unq) rfl (Ths_srt.mpr ⟨s1, t1⟩) t3 hTR hT.1.1 rfl rfl hj2 hr (fun e he => (hA.2.1.1 e ((hT.1.1 e).mp he)).1)).mo (fun σ2 v g => ?_)
    cases res with
    | inl fw =>
      obtain ⟨rfl, g1, g2⟩ := tl_bad (t := s.1) (e := s.2.1) hm1 (hS.kp hK1) (hU.kp hK1) (hDD.kp hK1) (hAn.keep r1 hK1 (by decide)) (hSl.keep r1 hK1 (by decide)) (hWr.keep r1 (by decide) (by decide)) (hSh.keep r1 (by decide) (by decide) (fun _ _ _ z => z)) ⟨hv.2.1, hv.1⟩ g
      have r2 : rfM m FT2 AT2 (VRn vm) σ σ2 := (r1.mo ⟨by decide, by decide⟩ (fun _ q => q.elim)).tr g2
      exact run_bad ho g1 (h0.keep r2 (by decide)) (h25.keep r2 (by decide)) (h9.keep r2 (by decide)) (h8.keep r2 (by decide)) hbb r2
    | inr ns' =>
      obtain ⟨rfl, nsR', vm', v1, v2, v3, v4, v5, ⟨v6, v7, v8⟩, v9, _, v11, v12⟩ := tl_in (k1 := k1) hm1 (hH.keep r1 (by decide) (by decide)) (hS.kp hK1) (hU.kp hK1) (hSl.keep r1 hK1 (by decide)) (hWr.keep r1 (by decide) (by decide)) (hRf.keep r1 (by decide) (by decide)) ⟨hv.1, hv.2.1, by omega⟩ hb.2.1 ⟨hk.1, hk.2.1⟩ (by rw [r1.ar 11 ⟨by decide, by omega, by omega⟩]; exact hDe) (fun k hk' _ => by rw [List.length_map] at hk'; exact hk') (fun k hk' hn => plR_wlen (f := (·.1)) k (by rw [List.length_map]; exact hk') (by omega)) g
      have r12 := v12 (fun z => z)
      have r2 : rfM m FT4 AT2 (VRn vm) σ σ2 := (r1.mo ⟨by decide, by decide⟩ (fun _ q => q.elim)).tr r12
      have hK2 : Kp m c.1 c.2.1 c.2.2 σ σ2 := kp_T2 r2 hv.2.1
      have bnd : c.1 ≤ vm' ∧ vm' ≤ 12600 := by omega
      refine run_good v9 (h0.keep r2 (by decide)) (h32.keep r2 (by decide)) ⟨by omega, by omega⟩ ⟨r2.1, ?_⟩
      rw [ho]
      refine ⟨rfl, h0.keep r2 (by decide), (vm', k1, c.2.2 + 1), (nsR', _, s.2.2.2.2.2.2.2.1.2.2), ⟨⟨v1, t4⟩, hT.2.1, by rw [v2]; exact hT.2.2.1, t2⟩, ⟨⟨v9, RTx.nil (h8.keep r2 (by decide)), h9.keep r2 (by decide), v8⟩, ⟨(hAn.keep r2 hK2 (by decide)).up bnd, v6, v7, hSh.keep r2 (by decide) (by decide) (fun i h1 h2 z => by
        rcases z with z | z
        · omega
        · omega)⟩, v5, ⟨v4, h21.keep r2 (by decide), h25.keep r2 (by decide)⟩, by omega, bnd.2, hk.2.1, hb.2.1⟩, ⟨bnd.1, ?_⟩, hk.2.2, Nat.le_refl _⟩
      show vm' ≤ c.1 + n + 22
      omega
  · intro hx hf2
    rw [epm] at hx
    rw [hx] at hR
    rcases hR with ⟨q, _⟩ | ⟨_, hok, hht, r, hw, hres⟩
    · exact absurd q hf2
    rw [e1, e2]
    refine ⟨r, hw, fun hr0 σ1 r1 f1 f2 f3 f4 => ?_, fun hr0 hf0 σ1 vi r1 hV hP hSt => ?_, fun hr0 hf1 σ1 vi vm1 r1 h51 hvm1 hK1 hSt => ?_⟩
    · have ho : oc = .inl ((r.1 : Int), (r.2.1 : Int), -1, []) := by
        rcases hres with ⟨_, q⟩ | ⟨q, _⟩ | ⟨q, _⟩
        · exact q
        · exact absurd q hr0
        · exact absurd q hr0
      have hK : Kp m c.1 c.2.1 c.2.2 σ σ1 := Kp.of r1 (by decide) (fun i h1 _ z => by have z : i < 200 := z; omega)
      exact run_bad ho (h.refused ⟨f1.iz1, f2.iz1, f3, f4, Nat.zero_le _, fun i z h => (by cases h)⟩ r1 hK ⟨by decide, by decide⟩ sh2) (h0.keep r1 (by decide)) (h25.keep r1 (by decide)) (h9.keep r1 (by decide)) (h8.keep r1 (by decide)) hbb r1
    · have ho : oc = .inr (some (r.2.2.1, r.2.2.2), A) := by
        rcases hres with ⟨q, _⟩ | ⟨_, _, q⟩ | ⟨_, q, _⟩
        · exact absurd hr0 q
        · exact q
        · omega
      have hm1 := r1.ms hm
      have hsl : r.2.2.2.length ≤ 200 := hSt.2.1
      refine (rf_50_0 (vm := vm) (by omega) hm1 (by rw [← hf0]; exact h32.keep r1 (by decide)) hV hP hSt).mo (fun σ2 v g => ?_)
      obtain ⟨rfl, r2, g1, g2, g3⟩ := g
      have hm2 := r2.ms hm1
      have k32 : Fi σ2 m 32 (nI 0) := by rw [← hf0]; exact (h32.keep r1 (by decide)).keep r2 (by decide)
      have hvi : vi < 12600 := by
        rcases hP with q | q
        · omega
        · omega
      unfold rnC
      refine Hx.ce (sm_eq (show 1 < 2147483648 by omega) (by omega)) (fun z => absurd z (by omega)) (fun _ => ?_)
      rw [fi_g hm2 k32]
      refine hx_bs (Hx.ce rfl (fun _ => ?_) (fun z => absurd rfl z))
      refine (rf_146_1 hm2 ((h0.keep r1 (by decide)).keep r2 (by decide)) k32 ((h25.keep r1 (by decide)).keep r2 (by decide)) ⟨hb.2.2, by omega⟩ g2 g3 hvi).mo (fun σ3 v g => ?_)
      obtain ⟨rfl, r3, f21, f25, i', vm3, f57, f5, hv3, hi3, hV3⟩ := g
      have r23 : rfM m [5, 21, 25, 55, 56, 57, 65] [1, 2, 21, 22, 23, 24, 25, 26, 27, 28, 29, 34] (fun i => i < 200 ∨ 200 ≤ i ∧ i < 600 ∨ i = c.1) σ σ3 := (r1.mo ⟨by decide, by decide⟩ (fun i q => Or.inl q)).tr ((r2.mo ⟨by decide, by decide⟩ (fun i q => Or.inr (Or.inl q))).tr (r3.mo ⟨by decide, by decide⟩ (fun i q => Or.inr (Or.inr q))))
      have hK : Kp m c.1 c.2.1 c.2.2 σ σ3 := Kp.of r23 (by decide) (fun i h1 h2 z => by omega)
      have bnd : c.1 ≤ vm3 ∧ vm3 ≤ 12600 := by omega
      have g33 : c.2.2 ≤ c.2.2 ∧ c.2.2 ≤ 600 := by omega
      refine ⟨r23.1, ?_⟩
      rw [ho]
      refine ⟨by rw [hf0], ?_, (vm3, c.2.1, c.2.2), s.2.2.2.2.2.2.2.1, hT, ⟨⟨r3.ms hm2, RTx.nil (h8.keep r23 (by decide)), h9.keep r23 (by decide), hRf.keep r23 (by decide) (by decide)⟩, ⟨⟨i', f57, ⟨by show 600 ≤ i' ∧ i' < vm3 ∧ vm3 ≤ 12600; omega, hV3⟩⟩, (hSl.keep r23 hK (by decide)).up bnd, hWr.keep r23 (by decide) (by decide), g1.keep r3 (by decide) (by decide) (fun i h1 h2 z => by omega)⟩, ?_, ⟨f5, f21, f25⟩, by show 600 ≤ vm3 ∧ vm3 ≤ 12600 ∧ c.2.1 ≤ 12000 ∧ c.2.2 ≤ 600; omega⟩, ⟨bnd.1, ?_⟩, ?_, Nat.le_succ _⟩
      · exact h0.keep r23 (by decide)
      · have q := ((h.2.2.2.keep r23 hK (by decide) (by decide)).up bnd (Nat.le_refl _) g33)
        subst hf0
        exact q
      · show vm3 ≤ c.1 + n + 22
        omega
      · show c.2.1 ≤ c.2.1 + n
        omega
    · have hres2 : ∃ ns1 res, RunN A w L r.2.2.1 ns1 res ∧ oc = ocR A ns1 A.2.1 (some (r.2.2.1, r.2.2.2)) res := by
        rcases hres with ⟨q, _⟩ | ⟨_, q, _⟩ | ⟨_, _, q⟩
        · exact absurd hr0 q
        · omega
        · exact q
      subst hf1
      obtain ⟨ns1, res, ⟨p, rfl, hp, hl, hl2, hNod, hok1, j, hj, hr⟩, ho⟩ := hres2
      obtain ⟨u1, u2, u3, u4, u5⟩ := hh (by omega)
      have hnp1 : np = 0 := hnp.2 (by omega)
      subst hnp1
      obtain ⟨⟨t1, t2⟩, t3, t4, t5, t6, t7⟩ := tell_N (q := r.2.2.1) hA hT u4 hx hp
      have s2 := hA.srt.2
      have hm1 := r1.ms hm
      have kv : ∀ i, 600 ≤ i → i < vm → ¬ VWK vm i := fun i h1 h2 z => by
        rcases z with z | z
        · omega
        · omega
      have hK1' : Kp m c.1 c.2.1 c.2.2 σ σ1 := Kp.of r1 (by decide) (fun i h1 h2 => kv i h1 (by omega))
      have hj2 : (Ths (plL A.1 p (isN (·.1) A.1 p w) (w, L, r.2.2.1)) A.2.1)[j]? = some (0, w, L) := by
        unfold ndO at hj
        rw [if_neg (by omega)] at hj
        have hat := fix_at t1.unq ((t6 _).mpr (Or.inl rfl)) rfl hj
        rw [Ths_get, if_pos (List.getElem?_eq_some_iff.mp hat).1, hat]
        rfl
      have hTR : ∀ e, e ∈ Ths (plR s.2.2.2.2.2.2.2.1.1 (fix (s.2.2.2.2.2.2.2.1.1.map (·.1)) w) (w, L, r.2.2.1)) s.2.2.2.2.2.2.2.1.2.1 ↔ e ∈ Ths (plL A.1 p (isN (·.1) A.1 p w) (w, L, r.2.2.1)) A.2.1 := by
        intro y
        rw [Ths_mem, Ths_mem]
        constructor
        · rintro (⟨e, h1, h2⟩ | ⟨e, h1, h2⟩)
          · exact Or.inl ⟨e, (t4 e).mp h1, h2⟩
          · exact Or.inr ⟨e, (hT.1.2 e).mp h1, h2⟩
        · rintro (⟨e, h1, h2⟩ | ⟨e, h1, h2⟩)
          · exact Or.inl ⟨e, (t4 e).mpr h1, h2⟩
          · exact Or.inr ⟨e, (hT.1.2 e).mpr h1, h2⟩
      have hSt1 : Ste σ1 m vm1 r.2.2.2 := by
        refine ⟨hSt.1, hSt.2.1, fun j x hj => ?_⟩
        obtain ⟨a1, vj, a2, a3, a4⟩ := hSt.2.2 j x hj
        refine ⟨a1, vj, a2, a3, ?_⟩
        rcases a4 with q | q
        · exact Or.inl q
        · exact Or.inr ⟨q.1, by omega⟩
      refine (rf_50_1 (c := c0) (U := U) (D := D) hm1 ((hB.keepM r1 (by unfold Rnot; decide) kv).up hvm1.1 (by omega)) (h32.keep r1 (by decide)) (u1.keep r1 (by decide)) (by have := u4.1.2; omega) ((hD.keepM r1 (by decide) kv).up hvm1.1 (by omega)) hK1 (hH.keep r1 (by decide) (by decide)) hSt1 h51 ⟨by omega, by omega⟩ t5 t1.unq t2 (fbd_pm hT.1.2 hT.2.2.2 s2.unq) rfl (Ths_srt.mpr ⟨t1, s2⟩) t3 hTR t4 rfl rfl hj2 hr (fun e he => ?_)).mo (fun σ3 v g => ?_)
      · rcases (t6 e).mp ((t4 e).mp he) with rfl | ⟨q, _⟩
        · exact u4.1
        · exact (hA.2.1.1 e q).1
      obtain ⟨σ2, r2, g⟩ := g
      have hm2 := r2.ms hm1
      have r12 : rfM m [5, 55, 65] [1, 2, 21, 22, 23, 24, 26, 27, 28, 29, 34] (fun i => i < 200 ∨ i = vm ∨ 400 ≤ i ∧ i < 600) σ σ2 := (r1.mo ⟨by decide, by decide⟩ (fun i q => by
        rcases q with q | q
        · exact Or.inl q
        · exact Or.inr (Or.inl q))).tr (r2.mo ⟨by decide, by decide⟩ (fun i q => Or.inr (Or.inr q)))
      have hK2 : Kp m c.1 c.2.1 c.2.2 σ σ2 := Kp.of r12 (by decide) (fun i h1 h2 z => by omega)
      have sh12 : ∀ i, 200 ≤ i → i < 400 → ¬ (i < 200 ∨ i = vm ∨ 400 ≤ i ∧ i < 600) := fun i h1 h2 z => by omega
      cases res with
      | inl fw =>
        obtain ⟨rfl, g1, g2⟩ := tl_bad (t := s.1) (e := s.2.1) hm2 (hS.kp hK2) (hU.kp hK2) (hDD.kp hK2) (hAn.keep r12 hK2 (by decide)) (hSl.keep r12 hK2 (by decide)) (hWr.keep r12 (by decide) (by decide)) (hSh.keep r12 (by decide) (by decide) sh12) ⟨by omega, by omega⟩ g
        have r3 : rfM m (65 :: FT2) (34 :: AT2) (fun _ => True) σ σ3 := (r12.mo ⟨by decide, by decide⟩ (fun _ _ => trivial)).tr (g2.mo ⟨by decide, by decide⟩ (fun _ _ => trivial))
        exact run_bad ho g1 (h0.keep r3 (by decide)) (h25.keep r3 (by decide)) (h9.keep r3 (by decide)) (h8.keep r3 (by decide)) hbb r3
      | inr ns' =>
        obtain ⟨rfl, nsR', vm', v1, v2, v3, v4, v5, ⟨v6, v7, v8⟩, v9, v10, v11, _⟩ := tl_in (k1 := k1) hm2 (hH.keep r12 (by decide) (by decide)) (hS.kp hK2) (hU.kp hK2) (hSl.keep r12 hK2 (by decide)) (hWr.keep r12 (by decide) (by decide)) (hRf.keep r12 (by decide) (by decide)) ⟨by omega, by omega, by omega⟩ hb.2.1 ⟨hk.1, hk.2.1⟩ (by rw [r12.ar 11 ⟨by decide, by omega, by omega⟩]; exact hDe) (fun k hk' hn => plR_wlen (f := (·.1)) k hk' hn) (fun k hk' _ => hk') g
        have r3 : rfM m (65 :: FT3) (34 :: A108) (fun _ => True) σ σ3 := (r12.mo ⟨by decide, by decide⟩ (fun _ _ => trivial)).tr (v11.mo ⟨by decide, by decide⟩ (fun _ _ => trivial))
        obtain ⟨w1, w2⟩ := v10 trivial
        have hKv3 : Kv σ3 m vm' vi r.2.2.1 := (((hK1.keepM r2 (fun i h1 h2 z => by have z : 400 ≤ i ∧ i < 600 := z; omega)).keepM v11 (fun i h1 h2 z => by
          rcases z with z | z
          · omega
          · omega)).up v3.1 (by omega))
        refine run_good v9 (h0.keep r3 (by decide)) (h32.keep r3 (by decide)) ⟨by omega, by omega⟩ ⟨r3.1, ?_⟩
        rw [ho]
        refine ⟨rfl, h0.keep r3 (by decide), (vm', k1, c.2.2 + 1), (nsR', _, s.2.2.2.2.2.2.2.1.2.2), ⟨⟨v1, hT.1.2⟩, hT.2.1, by rw [v2]; exact t2, hT.2.2.2⟩, ⟨⟨v9, RTx.nil (h8.keep r3 (by decide)), h9.keep r3 (by decide), v8⟩, ⟨⟨vi, w2, hKv3⟩, v6, v7, w1⟩, v5, ⟨v4, h21.keep r3 (by decide), h25.keep r3 (by decide)⟩, by show 600 ≤ vm' ∧ vm' ≤ 12600 ∧ k1 ≤ 12000 ∧ c.2.2 + 1 ≤ 600; omega⟩, ⟨by show c.1 ≤ vm'; omega, ?_⟩, hk.2.2, Nat.le_refl _⟩
        show vm' ≤ c.1 + n + 22
        omega
