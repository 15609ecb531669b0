/-! ===== the reference: a name is told ===== -/
theorem Rbk.cur {σ σ' : St} {m vm : Nat} {ns : List NE} {fs : List FE} {F A : List Nat} {V : Nat → Prop} (h : Rbk σ m vm ns fs) (hc : Rda (curR σ' m) (curR σ m)) (hR : rfM m F A V σ σ') (hA : (6 ∉ A ∧ 7 ∉ A ∧ 8 ∉ A ∧ 9 ∉ A) ∧ 10 ∉ A ∧ 11 ∉ A ∧ 12 ∉ A) (hv : ∀ i, 600 ≤ i → i < vm → ¬ V i) : Rbk σ' m vm ns fs := by
  obtain ⟨⟨a1, a2, a3, a4⟩, h2, h3⟩ := h
  obtain ⟨c1, c2, c3, c4, c5⟩ := hc
  have c1 : sI σ' (fid 16 40) m = sI σ (fid 16 40) m := c1
  have c2 : sI σ' (fid 16 41) m = sI σ (fid 16 41) m := c2
  have c3 : ∀ t, t < 30 → sA σ' (m + 18) t = sA σ (m + 18) t ∧ sA σ' (m + 19) t = sA σ (m + 19) t ∧ sA σ' (m + 20) t = sA σ (m + 20) t := c3
  refine ⟨⟨c1.trans a1, a2, c2.trans a3, a4⟩, fun k e he => ?_, fun k e he => ?_⟩
  · have hk := (List.getElem?_eq_some_iff.mp he).1
    obtain ⟨b1, b2, ⟨d, b3, b4⟩, vi, b5, b6⟩ := h2 k e he
    obtain ⟨u1, u2, u3⟩ := c3 k (by omega)
    exact ⟨u1.trans b1, b2, ⟨d, u2.trans b3, b4.keepM hR hA hv⟩, vi, u3.trans b5, b6.keepM hR hv⟩
  · have hk := (List.getElem?_eq_some_iff.mp he).1
    obtain ⟨b1, b2, d, b3, b4⟩ := h3 k e he
    obtain ⟨u1, u2, u3⟩ := c3 (20 + k) (by omega)
    exact ⟨u1.trans b1, b2, d, u2.trans b3, b4.keepM hR hA hv⟩
theorem RHi.keep {σ σ' : St} {m : Nat} {c : Rd} {U D : List Rd} {F A : List Nat} {V : Nat → Prop} (h : RHi σ m c U D) (hR : rfM m F A V σ σ') (hF : 40 ∉ F ∧ 41 ∉ F ∧ 72 ∉ F ∧ 73 ∉ F) (hA : 18 ∉ A ∧ 19 ∉ A ∧ 20 ∉ A ∧ 36 ∉ A ∧ 37 ∉ A ∧ 39 ∉ A ∧ 40 ∉ A) : RHi σ' m c U D := by
  obtain ⟨h1, ⟨h2, h3⟩, h4, h5, h6⟩ := h
  refine ⟨?_, ⟨h2.keep hR hF.2.2.1, h3.keep hR hF.2.2.2⟩, h4, fun k q hq => ?_, fun k q hq => ?_⟩
  · rw [curR_k hR ⟨hF.1, hF.2.1⟩ ⟨hA.1, hA.2.1, hA.2.2.1, hA.2.2.2.1, hA.2.2.2.2.1⟩]; exact h1
  · rw [hR.ar 39 ⟨hA.2.2.2.2.2.1, by omega, by omega⟩]; exact h5 k q hq
  · rw [hR.ar 40 ⟨hA.2.2.2.2.2.2, by omega, by omega⟩]; exact h6 k q hq
abbrev F108 : List Nat := [5, 40, 41, 43, 44, 45, 46, 55, 56, 57, 61, 62, 72, 73]
abbrev A108 : List Nat := [1, 2, 18, 19, 20, 21, 22, 23, 24, 25, 26, 27, 28, 29, 30, 31, 32, 33, 36, 37, 38, 39]
def V108 (vm : Nat) : Nat → Prop := fun i => i < 400 ∨ vm ≤ i
abbrev FT2 : List Nat := [5, 40, 41, 43, 44, 45, 46, 55, 61, 62, 72, 73]
abbrev AT2 : List Nat := [1, 2, 18, 19, 20, 21, 22, 23, 24, 26, 27, 28, 29, 30, 31, 32, 33, 36, 37, 38, 39]
abbrev FT3 : List Nat := [5, 40, 41, 55, 56, 57, 61, 62, 72, 73]
abbrev FT4 : List Nat := [5, 40, 41, 55, 61, 62, 72, 73]
/-- how telling ends -/
def TlP (m vm tp d : Nat) (c : Rd) (U D : List Rd) (nsR : List NE) (fsR fsR1 : List FE) (WR : List Nat) (sts : Sts) (x2 : Int32) (shown : Prop) (res : Nat ⊕ List NE) (σ σ' : St) (v : Int32) : Prop := rfM m F108 A108 (V108 vm) σ σ' ∧ match res with
  | .inl w => v = nI 0 ∧ (Fi σ' m 43 (nI 9) ∧ Fi σ' m 44 (nI 0) ∧ Fi σ' m 45 (nI w) ∧ Fi σ' m 46 (nI 0)) ∧ RHi σ' m c U D ∧ Rbk σ' m vm nsR fsR ∧ rfM m FT2 AT2 (VRn vm) σ σ'
  | .inr nsS' => v = nI 1 ∧ (∃ nsR' vm', (∀ e, e ∈ nsR' ↔ e ∈ nsS') ∧ nsR'.map (·.1) = WR ∧ Rbk σ' m vm' nsR' fsR1 ∧ Fi σ' m 5 (nI vm') ∧ (600 ≤ vm' ∧ vm ≤ vm' ∧ vm' ≤ vm + 20)) ∧ (∃ c', RHi σ' m c' ((if U.length = 20 then U.tail else U) ++ [c]) []) ∧ (shown → Shn σ' m sts ∧ Fi σ' m 57 x2) ∧ (rfM m FT3 A108 (V108 vm) σ σ' ∧ (¬ shown → rfM m FT4 AT2 (VRn vm) σ σ')) ∧ (sA σ' (m + 36) = sA σ (m + 36) ∧ sA σ' (m + 37) = sA σ (m + 37)) ∧ sA σ' (m + 19) tp = nI d ∧ ∀ k, k ≠ tp → sA σ' (m + 19) k = sA σ (m + 19) k
theorem rf_108N {m vm w d vi j : Nat} {l : List It} {q : Qv} {nsR nsS : List NE} {fsR fsS : List FE} {T : List Th} {WS WR : List Nat} {c : Rd} {U D : List Rd} {sts : Sts} {res : Nat ⊕ List NE} {σ : St} (hm : MS σ m) (hB : Rbk σ m vm nsR fsR) (h32 : Fi σ m 32 (nI 1)) (h33 : Fi σ m 33 (nI w)) (hw : w < 2147483648) (hD : Dfn σ m vm d l 0) (hK : Kv σ m vm vi q) (hH : RHi σ m c U D) (hS : Ahd σ m sts) (h5 : Fi σ m 5 (nI vm)) (hv : 600 ≤ vm ∧ vm + 20 ≤ 12600)
    (hlen : fix (nsR.map (·.1)) w = none → nsR.length < 20) (uS : Unq WS) (uR : Unq WR) (hfb : fbd fsR = fbd fsS) (hT : T = Ths nsS fsS) (hTs : T.Pairwise thlt) (hac : Acy T) (hTR : ∀ e, e ∈ Ths (plR nsR (fix (nsR.map (·.1)) w) (w, l, q)) fsR ↔ e ∈ T) (hpm : ∀ e, e ∈ plR nsR (fix (nsR.map (·.1)) w) (w, l, q) ↔ e ∈ nsS) (hWS : nsS.map (·.1) = WS) (hWR : (plR nsR (fix (nsR.map (·.1)) w) (w, l, q)).map (·.1) = WR)
    (hj : T[j]? = some (0, w, l)) (hr : rnw T fsS 20 nsS (usrL nsS fsS j) = some res) (hwd : ∀ e ∈ plR nsR (fix (nsR.map (·.1)) w) (w, l, q), wd e.1) :
    Hx (fX12_isDone_108 σ m (nI d) (nI vi)) (TlP m vm (plp nsR (fix (nsR.map (·.1)) w)) d c U D nsR fsR fsR WR sts (nI vi) True res σ) := by
  have b20 := hB.1.2.1
  have hok : ∀ k, fix (nsR.map (·.1)) w = some k → k < nsR.length := by
    intro k hk
    have := fix_lt hk
    rw [List.length_map] at this
    exact this
  have hp20 : plp nsR (fix (nsR.map (·.1)) w) < 20 := by
    cases ho : fix (nsR.map (·.1)) w with
    | none => exact hlen ho
    | some k => have := hok k ho; show k < 20; omega
  rw [n_fX12_isDone_108, fi_g hm h32]
  refine hx_bs (Hx.ce (sm_le (by omega) (by omega)) (fun z => absurd z (by omega)) (fun _ => ?_))
  rw [rf_ck hm]
  refine hx_bs ?_
  refine Hx.bd (rf_remembers hm) (fun σ3 _ r3 => ?_)
  have hm3 := r3.ms hm
  rw [rf_ck hm3]
  refine hx_bs ?_
  refine Hx.bd (rf_saves hm3) (fun σ6 _ h6 => ?_)
  obtain ⟨r6, s6⟩ := h6
  have hm6 := r6.ms hm3
  rw [curR_k r3 (by decide) (by decide)] at s6
  rw [rf_ck hm6]
  refine hx_bs ?_
  have hB6 := (hB.keepM r3 (by unfold Rnot; decide) (fun _ _ _ q => q)).keepM r6 (by unfold Rnot; decide) (fun _ _ _ q => q)
  refine Hx.bd (rf_placedN hm6 hB6 ((h32.keep r3 (by decide)).keep r6 (by decide)) ((h33.keep r3 (by decide)).keep r6 (by decide)) hw hlen) (fun σ9 v h9 => ?_)
  obtain ⟨rfl, hP, h40⟩ := h9
  have r9 := hP.1
  have hm9 := r9.ms hm6
  rw [rf_valueOf hm9]
  refine hx_bs ?_
  rw [st_valueOf hm9 (by omega)]
  refine hx_bs ?_
  have hB13 := hB6.tellN (o := fix (nsR.map (·.1)) w) (l := l) (q := q) rfl hlen hw hP h40 ((hD.keepM r3 (by decide) (fun _ _ _ q => q)).keepM r6 (by decide) (fun _ _ _ q => q)) ((hK.keepM r3 (fun _ _ _ q => q)).keepM r6 (fun _ _ _ q => q))
  have w13 : rfM m [] [20] nV σ9 (wA σ9 (m + 20) (plp nsR (fix (nsR.map (·.1)) w)) (nI vi)) := rfM.wA (by simp) (by omega)
  generalize wA σ9 (m + 20) (plp nsR (fix (nsR.map (·.1)) w)) (nI vi) = σ13 at hB13 w13 ⊢
  have hm13 := w13.ms hm9
  rw [rf_ck hm13]
  refine hx_bs ?_
  have pre : rfM m [40, 61, 62] [18, 19, 20, 30, 31, 32, 38] nV σ σ13 := (r3.mo ⟨by decide, by decide⟩ (fun _ q => q)).tr ((r6.mo ⟨by decide, by decide⟩ (fun _ q => q)).tr ((r9.mo ⟨by decide, by decide⟩ (fun _ q => q)).tr (w13.mo ⟨by decide, by decide⟩ (fun _ q => q))))
  have s13 : sA σ13 (m + 38) = sA σ6 (m + 38) := by
    rw [w13.ar 38 ⟨by decide, by omega, by omega⟩, r9.ar 38 ⟨by decide, by omega, by omega⟩]
  have p36 : sA σ13 (m + 36) = sA σ (m + 36) ∧ sA σ13 (m + 37) = sA σ (m + 37) := ⟨pre.ar 36 ⟨by decide, by omega, by omega⟩, pre.ar 37 ⟨by decide, by omega, by omega⟩⟩
  have p19 : sA σ13 (m + 19) (plp nsR (fix (nsR.map (·.1)) w)) = nI d ∧ ∀ k, k ≠ (plp nsR (fix (nsR.map (·.1)) w)) → sA σ13 (m + 19) k = sA σ (m + 19) k := by
    refine ⟨by rw [w13.ar 19 ⟨by decide, by omega, by omega⟩]; exact hP.2.1.2, fun k hk => ?_⟩
    rw [w13.ar 19 ⟨by decide, by omega, by omega⟩, (hP.2.2 k hk).2, r6.ar 19 ⟨by decide, by omega, by omega⟩, r3.ar 19 ⟨by decide, by omega, by omega⟩]
  have htg : tg (plR nsR (fix (nsR.map (·.1)) w) (w, l, q)) fsR (plp nsR (fix (nsR.map (·.1)) w)) = some (0, w, l) := by
    unfold tg
    rw [if_pos hp20, plR_get hok, if_pos rfl]
    rfl
  refine Hx.bd (rf_renews (v0 := vm) uS uR hfb hT hTs hac hTR hpm hWS hWR htg (by omega) hj hr hm13 hB13 (h5.keep pre (by decide)) ⟨hv.1, Nat.le_refl _, Nat.le_refl _, hv.2⟩ hwd) (fun σ14 v15 h14 => ?_)
  obtain ⟨r14, h14⟩ := h14
  have hm14 := r14.ms hm13
  have s14 : sA σ14 (m + 38) = sA σ6 (m + 38) := by rw [r14.ar 38 ⟨by decide, by omega, by omega⟩, s13]
  have v14 : ∀ i, VRn vm i → V108 vm i := fun i q => by
    rcases q with q | q
    · exact Or.inl (by omega)
    · exact Or.inr q
  have all14 : rfM m F108 A108 (V108 vm) σ σ14 := (pre.mo ⟨by decide, by decide⟩ (fun _ q => q.elim)).tr (r14.mo ⟨by decide, by decide⟩ v14)
  cases res with
  | inl fw =>
    obtain ⟨rfl, g1, g2, g3, g4⟩ := h14
    refine Hx.ce rfl (fun _ => ?_) (fun z => absurd rfl z)
    rw [rf_ck hm14]
    refine hx_bs ?_
    refine Hx.bd (rf_recalls hm14) (fun σ21 _ r21 => ?_)
    have hm21 := r21.ms hm14
    rw [rf_ck hm21]
    refine hx_bs ?_
    refine Hx.bd (rf_forgets hm21) (fun σ24 _ h24 => ?_)
    obtain ⟨r24, s24⟩ := h24
    have post2 : rfM m FT2 AT2 (VRn vm) σ σ24 := (pre.mo ⟨by decide, by decide⟩ (fun _ q => q.elim)).tr ((r14.mo ⟨by decide, by decide⟩ (fun _ q => q)).tr ((r21.mo ⟨by decide, by decide⟩ (fun _ q => q.elim)).tr (r24.mo ⟨by decide, by decide⟩ (fun _ q => q.elim))))
    have post : rfM m F108 A108 (V108 vm) σ σ24 := all14.tr ((r21.mo ⟨by decide, by decide⟩ (fun _ q => q.elim)).tr (r24.mo ⟨by decide, by decide⟩ (fun _ q => q.elim)))
    have hcur : Rda (curR σ24 m) (curR σ m) := by
      rw [r21.ar 38 ⟨by decide, by omega, by omega⟩, s14] at s24
      exact s24.tr s6
    have k39 : sA σ24 (m + 39) = sA σ (m + 39) := by
      rw [r24.ar 39 ⟨by decide, by omega, by omega⟩, r21.ar 39 ⟨by decide, by omega, by omega⟩, r14.ar 39 ⟨by decide, by omega, by omega⟩, pre.ar 39 ⟨by decide, by omega, by omega⟩]
    have k40 : sA σ24 (m + 40) = sA σ (m + 40) := post.ar 40 ⟨by decide, by omega, by omega⟩
    have fk : ∀ f v, Fi σ14 m f v → f ≠ 40 → f ≠ 41 → Fi σ24 m f v := fun f v h a b => (h.keep r21 (by simp [a, b])).keep r24 (by simp [a, b])
    obtain ⟨hc, ⟨h72, h73⟩, hl, hU, hDn⟩ := hH
    refine Hx.ret ⟨post, rfl, ⟨fk _ _ g1 (by omega) (by omega), fk _ _ g2 (by omega) (by omega), fk _ _ g3 (by omega) (by omega), fk _ _ g4 (by omega) (by omega)⟩, ⟨hcur.tr hc, ⟨fk _ _ ((h72.keep pre (by decide)).keep r14 (by decide)) (by omega) (by omega), fk _ _ ((h73.keep pre (by decide)).keep r14 (by decide)) (by omega) (by omega)⟩, hl, fun k y hy => by rw [k39]; exact hU k y hy, fun k y hy => by rw [k40]; exact hDn k y hy⟩, hB.cur hcur post (by decide) (fun i h1 h2 z => by
      rcases z with z | z
      · omega
      · omega), post2⟩
  | inr nsS' =>
    obtain ⟨rfl, r14s, nsR', vm', u1, u2, u3, u4, u5⟩ := h14
    refine Hx.ce (sm_eq (show 1 < 2147483648 by omega) (by omega)) (fun z => absurd z (by omega)) (fun _ => ?_)
    rw [rf_ck hm14]
    refine hx_bs ?_
    obtain ⟨hc, ⟨h72, h73⟩, hl, hU, hDn⟩ := hH
    have k39 : sA σ14 (m + 39) = sA σ (m + 39) := by
      rw [r14.ar 39 ⟨by decide, by omega, by omega⟩, pre.ar 39 ⟨by decide, by omega, by omega⟩]
    refine Hx.bd (rf_changes (s := c) (U := U) hm14 (by omega) ((h72.keep pre (by decide)).keep r14 (by decide)) (fun k y hy => by rw [k39]; exact hU k y hy) (by rw [s14]; exact s6.tr hc)) (fun σ18 _ h18 => ?_)
    obtain ⟨r18, U', hU', f72, f73, hU2⟩ := h18
    have hm18 := r18.ms hm14
    have a18 : rfM m F108 A108 (V108 vm) σ σ18 := all14.tr (r18.mo ⟨by decide, by decide⟩ (fun _ q => q.elim))
    have z18 : ∀ a, a = 19 ∨ a = 36 ∨ a = 37 → sA σ18 (m + a) = sA σ13 (m + a) := by
      rintro a (rfl | rfl | rfl) <;> rw [r18.ar _ ⟨by decide, by omega, by omega⟩, r14.ar _ ⟨by decide, by omega, by omega⟩]
    refine (rf_158 (sts := sts) (f := 1) hm18 (h32.keep a18 (by decide)) (by omega) (hS.keep a18 (by decide) (by decide) (fun i h1 h2 z => by
      rcases z with z | z
      · omega
      · omega))).mo (fun σ' v g => ?_)
    obtain ⟨rfl, g1, g2, g3⟩ := g
    have nsh : ∀ i, 600 ≤ i → i < vm' → ¬ VSh i := fun i h1 h2 z => by have z : 200 ≤ i ∧ i < 400 := z; omega
    refine ⟨a18.tr (g1.mo ⟨by decide, by decide⟩ (fun i z => Or.inl z.2)), rfl, ⟨nsR', vm', u1, u2, ((u3.keepM r18 (by unfold Rnot; decide) (fun _ _ _ q => q)).keepM g1 (by unfold Rnot; decide) nsh), (u4.keep r18 (by decide)).keep g1 (by decide), u5⟩, ⟨curR σ' m, Rda.rf, ⟨?_, f73.keep g1 (by decide)⟩, ?_, ?_, fun k y hy => (by cases hy)⟩, fun _ => ⟨g2, g3⟩, ⟨(pre.mo ⟨by decide, by decide⟩ (fun _ q => q.elim)).tr ((r14s.mo ⟨by decide, by decide⟩ v14).tr ((r18.mo ⟨by decide, by decide⟩ (fun _ q => q.elim)).tr (g1.mo ⟨by decide, by decide⟩ (fun i z => Or.inl z.2)))), fun z => absurd trivial z⟩, ⟨?_, ?_⟩, ?_, ?_⟩
    · rw [← hU']; exact f72.keep g1 (by decide)
    · rw [List.length_append, List.length_singleton]
      show _ + 0 ≤ 20
      split
      · rw [List.length_tail]; omega
      · omega
    · rw [← hU']
      intro k y hy
      rw [g1.ar 39 ⟨by decide, by omega, by omega⟩]
      exact hU2 k y hy
    · rw [g1.ar 36 ⟨by decide, by omega, by omega⟩, z18 36 (by omega)]; exact p36.1
    · rw [g1.ar 37 ⟨by decide, by omega, by omega⟩, z18 37 (by omega)]; exact p36.2
    · rw [g1.ar 19 ⟨by decide, by omega, by omega⟩, z18 19 (by omega)]; exact p19.1
    · intro k hk
      rw [g1.ar 19 ⟨by decide, by omega, by omega⟩, z18 19 (by omega)]
      exact p19.2 k hk
