/-! ===== the reference: a function is told ===== -/
theorem rf_108F {m vm w d np j : Nat} {l : List It} {nsR nsS : List NE} {fsR fsS : List FE} {T : List Th} {WS WR : List Nat} {c : Rd} {U D : List Rd} {sts : Sts} {res : Nat ⊕ List NE} {σ : St} (hm : MS σ m) (hB : Rbk σ m vm nsR fsR) (h32 : Fi σ m 32 (nI 2)) (h33 : Fi σ m 33 (nI w)) (hw : w < 2147483648) (hD : Dfn σ m vm d l np) (hH : RHi σ m c U D) (h5 : Fi σ m 5 (nI vm)) (hv : 600 ≤ vm ∧ vm + 20 ≤ 12600)
    (hlen : fix (fsR.map (·.1)) w = none → fsR.length < 10) (uS : Unq WS) (uR : Unq WR) (hfb : fbd (plR fsR (fix (fsR.map (·.1)) w) (w, np, l)) = fbd fsS) (hT : T = Ths nsS fsS) (hTs : T.Pairwise thlt) (hac : Acy T) (hTR : ∀ e, e ∈ Ths nsR (plR fsR (fix (fsR.map (·.1)) w) (w, np, l)) ↔ e ∈ T) (hpm : ∀ e, e ∈ nsR ↔ e ∈ nsS) (hWS : nsS.map (·.1) = WS) (hWR : nsR.map (·.1) = WR)
    (hj : T[j]? = some (1, w, l)) (hr : rnw T fsS 20 nsS (usrL nsS fsS j) = some res) (hwd : ∀ e ∈ nsR, wd e.1) :
    Hx (fX12_isDone_108 σ m (nI d) (iz (-1))) (TlP m vm (20 + plp fsR (fix (fsR.map (·.1)) w)) d c U D nsR fsR (plR fsR (fix (fsR.map (·.1)) w) (w, np, l)) WR sts (iz (-1)) False res σ) := by
  have b10 := hB.1.2.2.2
  have hok : ∀ k, fix (fsR.map (·.1)) w = some k → k < fsR.length := by
    intro k hk
    have := fix_lt hk
    rw [List.length_map] at this
    exact this
  have hp20 : plp fsR (fix (fsR.map (·.1)) w) < 10 := by
    cases ho : fix (fsR.map (·.1)) w with
    | none => exact hlen ho
    | some k => have := hok k ho; show k < 10; omega
  rw [n_fX12_isDone_108, fi_g hm h32]
  refine hx_bs (Hx.ce (sm_le (by omega) (by omega)) (fun z => absurd z (by omega)) (fun _ => ?_))
  rw [rf_ck hm]
  refine hx_bs ?_
  refine Hx.bd (rf_remembers hm) (fun σ3 _ r3 => ?_)
  have hm3 := r3.ms hm
  rw [rf_ck hm3]
  refine hx_bs ?_
  refine Hx.bd (rf_saves hm3) (fun σ6 _ h6 => ?_)
  obtain ⟨r6, s6⟩ := h6
  have hm6 := r6.ms hm3
  rw [curR_k r3 (by decide) (by decide)] at s6
  rw [rf_ck hm6]
  refine hx_bs ?_
  have hB6 := (hB.keepM r3 (by unfold Rnot; decide) (fun _ _ _ q => q)).keepM r6 (by unfold Rnot; decide) (fun _ _ _ q => q)
  refine Hx.bd (rf_placedF hm6 hB6 ((h32.keep r3 (by decide)).keep r6 (by decide)) ((h33.keep r3 (by decide)).keep r6 (by decide)) hw hlen) (fun σ9 v h9 => ?_)
  obtain ⟨rfl, hP, h40⟩ := h9
  have r9 := hP.1
  have hm9 := r9.ms hm6
  rw [rf_valueOf hm9]
  refine hx_bs ?_
  rw [st_valueOf hm9 (by omega)]
  refine hx_bs ?_
  have hB13 := hB6.tellF (v := iz (-1)) (o := fix (fsR.map (·.1)) w) (l := l) (np := np) rfl hlen hw hP h40 ((hD.keepM r3 (by decide) (fun _ _ _ q => q)).keepM r6 (by decide) (fun _ _ _ q => q))
  have w13 : rfM m [] [20] nV σ9 (wA σ9 (m + 20) (20 + plp fsR (fix (fsR.map (·.1)) w)) (iz (-1))) := rfM.wA (by simp) (by omega)
  generalize wA σ9 (m + 20) (20 + plp fsR (fix (fsR.map (·.1)) w)) (iz (-1)) = σ13 at hB13 w13 ⊢
  have hm13 := w13.ms hm9
  rw [rf_ck hm13]
  refine hx_bs ?_
  have pre : rfM m [41, 61, 62] [18, 19, 20, 30, 31, 32, 38] nV σ σ13 := (r3.mo ⟨by decide, by decide⟩ (fun _ q => q)).tr ((r6.mo ⟨by decide, by decide⟩ (fun _ q => q)).tr ((r9.mo ⟨by decide, by decide⟩ (fun _ q => q)).tr (w13.mo ⟨by decide, by decide⟩ (fun _ q => q))))
  have s13 : sA σ13 (m + 38) = sA σ6 (m + 38) := by
    rw [w13.ar 38 ⟨by decide, by omega, by omega⟩, r9.ar 38 ⟨by decide, by omega, by omega⟩]
  have p36 : sA σ13 (m + 36) = sA σ (m + 36) ∧ sA σ13 (m + 37) = sA σ (m + 37) := ⟨pre.ar 36 ⟨by decide, by omega, by omega⟩, pre.ar 37 ⟨by decide, by omega, by omega⟩⟩
  have p19 : sA σ13 (m + 19) (20 + plp fsR (fix (fsR.map (·.1)) w)) = nI d ∧ ∀ k, k ≠ (20 + plp fsR (fix (fsR.map (·.1)) w)) → sA σ13 (m + 19) k = sA σ (m + 19) k := by
    refine ⟨by rw [w13.ar 19 ⟨by decide, by omega, by omega⟩]; exact hP.2.1.2, fun k hk => ?_⟩
    rw [w13.ar 19 ⟨by decide, by omega, by omega⟩, (hP.2.2 k hk).2, r6.ar 19 ⟨by decide, by omega, by omega⟩, r3.ar 19 ⟨by decide, by omega, by omega⟩]
  have htg : tg nsR (plR fsR (fix (fsR.map (·.1)) w) (w, np, l)) (20 + plp fsR (fix (fsR.map (·.1)) w)) = some (1, w, l) := by
    unfold tg
    rw [if_neg (by omega), Nat.add_sub_cancel_left, plR_get hok, if_pos rfl]
    rfl
  refine Hx.bd (rf_renews (v0 := vm) uS uR hfb hT hTs hac hTR hpm hWS hWR htg (by omega) hj hr hm13 hB13 (h5.keep pre (by decide)) ⟨hv.1, Nat.le_refl _, Nat.le_refl _, hv.2⟩ hwd) (fun σ14 v15 h14 => ?_)
  obtain ⟨r14, h14⟩ := h14
  have hm14 := r14.ms hm13
  have s14 : sA σ14 (m + 38) = sA σ6 (m + 38) := by rw [r14.ar 38 ⟨by decide, by omega, by omega⟩, s13]
  have v14 : ∀ i, VRn vm i → V108 vm i := fun i q => by
    rcases q with q | q
    · exact Or.inl (by omega)
    · exact Or.inr q
  have all14 : rfM m F108 A108 (V108 vm) σ σ14 := (pre.mo ⟨by decide, by decide⟩ (fun _ q => q.elim)).tr (r14.mo ⟨by decide, by decide⟩ v14)
  cases res with
  | inl fw =>
    obtain ⟨rfl, g1, g2, g3, g4⟩ := h14
    refine Hx.ce rfl (fun _ => ?_) (fun z => absurd rfl z)
    rw [rf_ck hm14]
    refine hx_bs ?_
    refine Hx.bd (rf_recalls hm14) (fun σ21 _ r21 => ?_)
    have hm21 := r21.ms hm14
    rw [rf_ck hm21]
    refine hx_bs ?_
    refine Hx.bd (rf_forgets hm21) (fun σ24 _ h24 => ?_)
    obtain ⟨r24, s24⟩ := h24
    have post2 : rfM m FT2 AT2 (VRn vm) σ σ24 := (pre.mo ⟨by decide, by decide⟩ (fun _ q => q.elim)).tr ((r14.mo ⟨by decide, by decide⟩ (fun _ q => q)).tr ((r21.mo ⟨by decide, by decide⟩ (fun _ q => q.elim)).tr (r24.mo ⟨by decide, by decide⟩ (fun _ q => q.elim))))
    have post : rfM m F108 A108 (V108 vm) σ σ24 := all14.tr ((r21.mo ⟨by decide, by decide⟩ (fun _ q => q.elim)).tr (r24.mo ⟨by decide, by decide⟩ (fun _ q => q.elim)))
    have hcur : Rda (curR σ24 m) (curR σ m) := by
      rw [r21.ar 38 ⟨by decide, by omega, by omega⟩, s14] at s24
      exact s24.tr s6
    have k39 : sA σ24 (m + 39) = sA σ (m + 39) := by
      rw [r24.ar 39 ⟨by decide, by omega, by omega⟩, r21.ar 39 ⟨by decide, by omega, by omega⟩, r14.ar 39 ⟨by decide, by omega, by omega⟩, pre.ar 39 ⟨by decide, by omega, by omega⟩]
    have k40 : sA σ24 (m + 40) = sA σ (m + 40) := post.ar 40 ⟨by decide, by omega, by omega⟩
    have fk : ∀ f v, Fi σ14 m f v → f ≠ 40 → f ≠ 41 → Fi σ24 m f v := fun f v h a b => (h.keep r21 (by simp [a, b])).keep r24 (by simp [a, b])
    obtain ⟨hc, ⟨h72, h73⟩, hl, hU, hDn⟩ := hH
    refine Hx.ret ⟨post, rfl, ⟨fk _ _ g1 (by omega) (by omega), fk _ _ g2 (by omega) (by omega), fk _ _ g3 (by omega) (by omega), fk _ _ g4 (by omega) (by omega)⟩, ⟨hcur.tr hc, ⟨fk _ _ ((h72.keep pre (by decide)).keep r14 (by decide)) (by omega) (by omega), fk _ _ ((h73.keep pre (by decide)).keep r14 (by decide)) (by omega) (by omega)⟩, hl, fun k y hy => by rw [k39]; exact hU k y hy, fun k y hy => by rw [k40]; exact hDn k y hy⟩, hB.cur hcur post (by decide) (fun i h1 h2 z => by
      rcases z with z | z
      · omega
      · omega), post2⟩
  | inr nsS' =>
    obtain ⟨rfl, r14s, nsR', vm', u1, u2, u3, u4, u5⟩ := h14
    refine Hx.ce (sm_eq (show 1 < 2147483648 by omega) (by omega)) (fun z => absurd z (by omega)) (fun _ => ?_)
    rw [rf_ck hm14]
    refine hx_bs ?_
    obtain ⟨hc, ⟨h72, h73⟩, hl, hU, hDn⟩ := hH
    have k39 : sA σ14 (m + 39) = sA σ (m + 39) := by
      rw [r14.ar 39 ⟨by decide, by omega, by omega⟩, pre.ar 39 ⟨by decide, by omega, by omega⟩]
    refine Hx.bd (rf_changes (s := c) (U := U) hm14 (by omega) ((h72.keep pre (by decide)).keep r14 (by decide)) (fun k y hy => by rw [k39]; exact hU k y hy) (by rw [s14]; exact s6.tr hc)) (fun σ18 _ h18 => ?_)
    obtain ⟨r18, U', hU', f72, f73, hU2⟩ := h18
    have hm18 := r18.ms hm14
    have a18 : rfM m F108 A108 (V108 vm) σ σ18 := all14.tr (r18.mo ⟨by decide, by decide⟩ (fun _ q => q.elim))
    have z18 : ∀ a, a = 19 ∨ a = 36 ∨ a = 37 → sA σ18 (m + a) = sA σ13 (m + a) := by
      rintro a (rfl | rfl | rfl) <;> rw [r18.ar _ ⟨by decide, by omega, by omega⟩, r14.ar _ ⟨by decide, by omega, by omega⟩]
    rw [n_fX12_isDone_158, fi_g hm18 (h32.keep a18 (by decide))]
    refine hx_bs (Hx.ce rfl (fun _ => ?_) (fun z => absurd rfl z))
    refine Hx.ret ⟨a18, rfl, ⟨nsR', vm', u1, u2, u3.keepM r18 (by unfold Rnot; decide) (fun _ _ _ q => q), u4.keep r18 (by decide), u5⟩, ⟨curR σ18 m, Rda.rf, ⟨?_, f73⟩, ?_, ?_, fun k y hy => (by cases hy)⟩, fun z => z.elim, ⟨(pre.mo ⟨by decide, by decide⟩ (fun _ q => q.elim)).tr ((r14s.mo ⟨by decide, by decide⟩ v14).tr (r18.mo ⟨by decide, by decide⟩ (fun _ q => q.elim))), fun _ => (pre.mo ⟨by decide, by decide⟩ (fun _ q => q.elim)).tr ((r14s.mo ⟨by decide, by decide⟩ (fun _ q => q)).tr (r18.mo ⟨by decide, by decide⟩ (fun _ q => q.elim)))⟩, ⟨?_, ?_⟩, ?_, ?_⟩
    · rw [← hU']; exact f72
    · rw [List.length_append, List.length_singleton]
      show _ + 0 ≤ 20
      split
      · rw [List.length_tail]; omega
      · omega
    · rw [← hU']
      exact hU2
    · rw [z18 36 (by omega)]; exact p36.1
    · rw [z18 37 (by omega)]; exact p36.2
    · rw [z18 19 (by omega)]; exact p19.1
    · intro k hk
      rw [z18 19 (by omega)]
      exact p19.2 k hk
