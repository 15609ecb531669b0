/-! ===== the law: a thing is dropped ===== -/
theorem Rch.sub {T T' : List Th} (h : ∀ e, e ∈ T' → e ∈ T) {l : List It} {e : Th} (hr : Rch T' l e) : Rch T l e := by
  obtain ⟨n, hn⟩ := hr
  refine ⟨n, ?_⟩
  induction n generalizing l with
  | zero => exact ⟨h _ hn.1, hn.2⟩
  | succ n ih =>
    obtain ⟨e', h1, h2⟩ := hn
    exact ⟨e', ⟨h _ h1.1, h1.2⟩, ih h2⟩
theorem fbm_iff {α β : Type} {f : α → Nat} {g : α → β} {a : List α} (ha : Unq (a.map f)) {w : Nat} {y : β} : ((fix (a.map f) w).bind fun k => a[k]?.map g) = some y ↔ ∃ e ∈ a, f e = w ∧ g e = y := by
  constructor
  · intro h
    cases hk : fix (a.map f) w with
    | none => rw [hk] at h; cases h
    | some k =>
      rw [hk] at h
      have h : a[k]?.map g = some y := h
      cases he : a[k]? with
      | none => rw [he] at h; cases h
      | some e =>
        rw [he] at h
        have hg := fix_get hk
        rw [List.getElem?_map, he] at hg
        exact ⟨e, List.mem_of_getElem? he, Option.some.inj hg, Option.some.inj h⟩
  · rintro ⟨e, he, rfl, rfl⟩
    cases hk : fix (a.map f) (f e) with
    | none => exact absurd (List.mem_map_of_mem he) (fix_of.mp hk)
    | some k =>
      obtain ⟨i, hi⟩ := List.getElem?_of_mem he
      have hg := fix_get hk
      have hi2 : (a.map f)[i]? = some (f e) := by rw [List.getElem?_map, hi]; rfl
      have := ha _ _ _ hg hi2
      subst this
      show a[k]?.map g = _
      rw [hi]
      rfl
theorem fbm_er {α β : Type} {f : α → Nat} {g : α → β} {a b : List α} {P : Prop} {u : Nat} (ha : Unq (a.map f)) (hb : Unq (b.map f)) (hm : ∀ e, e ∈ b ↔ e ∈ a ∧ (P → f e ≠ u)) {w : Nat} (hw : P → w ≠ u) : ((fix (a.map f) w).bind fun k => a[k]?.map g) = ((fix (b.map f) w).bind fun k => b[k]?.map g) := by
  apply Option.ext
  intro y
  rw [fbm_iff ha, fbm_iff hb]
  constructor
  · rintro ⟨e, h1, h2, h3⟩
    exact ⟨e, (hm e).mpr ⟨h1, fun p => by rw [h2]; exact hw p⟩, h2, h3⟩
  · rintro ⟨e, h1, h2, h3⟩
    exact ⟨e, ((hm e).mp h1).1, h2, h3⟩
theorem Bkz.drop {A : As} {ns' : List NE} {fs' : List FE} {t : Th} (h : Bkz A) (s1 : ns'.Sublist A.1) (s2 : fs'.Sublist A.2.1) (m1 : ∀ e, e ∈ ns' ↔ e ∈ A.1 ∧ (t.1 = 0 → e.1 ≠ t.2.1)) (m2 : ∀ e, e ∈ fs' ↔ e ∈ A.2.1 ∧ (t.1 = 1 → e.1 ≠ t.2.1)) (ht : t ∈ Ths A.1 A.2.1) (hno : ∀ y ∈ Ths A.1 A.2.1, ¬ Rch (Ths A.1 A.2.1) y.2.2 t) : Bkz (ns', fs', A.2.2) := by
  obtain ⟨⟨u1, u2⟩, hac, hfl, hun, hns, hfs⟩ := h.q
  have v1 : Unq (ns'.map (·.1)) := Unq.of (List.Nodup.sublist (s1.map _) u1.nd)
  have v2 : Unq (fs'.map (·.1)) := Unq.of (List.Nodup.sublist (s2.map _) u2.nd)
  have hsub : ∀ e, e ∈ Ths ns' fs' → e ∈ Ths A.1 A.2.1 := by
    intro e he
    rcases Ths_mem.mp he with ⟨x, hx, rfl⟩ | ⟨x, hx, rfl⟩
    · exact Ths_n ((m1 x).mp hx).1
    · exact Ths_f ((m2 x).mp hx).1
  have l1 := s1.length_le
  have l2 := s2.length_le
  have h20 := h.1.2.2.1.1
  refine Bkz.mk ⟨⟨v1, v2⟩, fun e he hr => hac e (hsub e he) (hr.sub hsub), by omega, fun e he => ?_, fun e he => hns e ((m1 e).mp he).1, fun e he => hfs e ((m2 e).mp he).1⟩ (List.Pairwise.sublist (s1.map _) h.1.srt.1) (List.Pairwise.sublist (s2.map _) h.1.srt.2) (fun v hv => h.1.wk.1 v ((s1.map _).subset hv)) (fun v hv => h.1.wk.2 v ((s2.map _).subset hv)) (fun e he => h.1.1.1.2.1 e ((m2 e).mp he).1) (by omega) (fun e he => ?_)
  · have hk := unk_none.mp (hun e (hsub e he))
    refine unk_none.mpr fun it hit => ?_
    have hk := hk it hit
    have hnt : ¬ usb e.2.2 t.1 t.2.1 = true := fun z => hno e (hsub e he) (Rch.one ⟨ht, z⟩)
    unfold iknown at hk ⊢
    by_cases c1 : it.1 = 31
    · rw [if_pos c1] at hk ⊢
      cases hq : fix (ns'.map (·.1)) it.2.1 with
      | some k => rfl
      | none =>
        exfalso
        have hq := fix_of.mp hq
        cases hq2 : fix (A.1.map (·.1)) it.2.1 with
        | none => rw [hq2] at hk; cases hk
        | some k =>
          obtain ⟨x, hx, hx2⟩ := List.mem_map.mp (List.mem_of_getElem? (fix_get hq2))
          refine hq ?_
          rw [← hx2]
          refine List.mem_map_of_mem (f := (·.1)) ((m1 x).mpr ⟨hx, fun z y => hnt ?_⟩)
          exact usb_of hit (Or.inl ⟨z, c1⟩) (hx2.symm.trans y)
    · rw [if_neg c1] at hk ⊢
      by_cases c2 : it.1 = 33
      · rw [if_pos c2] at hk ⊢
        have hk := beq_iff_eq.mp hk
        refine beq_iff_eq.mpr ?_
        unfold vof at hk ⊢
        by_cases c3 : known it.2.1 = 0
        · rw [if_pos c3] at hk ⊢
          rw [← hk]
          exact (fbm_er u2 v2 m2 (fun p y => hnt (usb_of hit (Or.inr ⟨p, c2⟩) y))).symm
        · rw [if_neg c3] at hk ⊢
          exact hk
      · rw [if_neg c2]
  · obtain ⟨r, r1, r2, r3⟩ := h.2.2.2 e ((m1 e).mp he).1
    refine ⟨r, ?_, r2, r3⟩
    rw [← r1]
    exact (wrk_off (T := Ths A.1 A.2.1) (t := t) (fun w l hl => fbd_T hl) ht (fun w hw => fbm_er u1 v1 m1 hw) (fun w hw => fbm_er u2 v2 m2 hw) (hno _ (Ths_n ((m1 e).mp he).1)) _).symm
theorem er_mem {α : Type} {f : α → Nat} {l : List α} {k : Nat} {x : α} (hu : Unq (l.map f)) (hk : l[k]? = some x) (e : α) : e ∈ l.eraseIdx k ↔ e ∈ l ∧ f e ≠ f x := by
  have hk2 : (l.map f)[k]? = some (f x) := by rw [List.getElem?_map, hk]; rfl
  rw [List.mem_eraseIdx_iff_getElem?]
  constructor
  · rintro ⟨i, hi, he⟩
    refine ⟨List.mem_of_getElem? he, fun q => hi ?_⟩
    have he2 : (l.map f)[i]? = some (f x) := by rw [List.getElem?_map, he, ← q]; rfl
    exact hu _ _ _ he2 hk2
  · rintro ⟨h1, h2⟩
    obtain ⟨i, hi⟩ := List.getElem?_of_mem h1
    refine ⟨i, fun q => ?_, hi⟩
    subst q
    rw [hk] at hi
    cases hi
    exact h2 rfl
theorem er_unq {α : Type} {f : α → Nat} {l : List α} {k : Nat} (hu : Unq (l.map f)) : Unq ((l.eraseIdx k).map f) := Unq.of (List.Nodup.sublist ((List.eraseIdx_sublist l k).map f) hu.nd)
/-! ===== the law: the states that can be undone ===== -/
theorem hg_new {s s' : Kst} {h : As × List As × List As} {A' B' : As} (hH : Hg s h) (hG : Good A') (hT : Bti A' B') (e1 : s'.2.2.2.2.2.2.2.1 = upN s.2.2.2.2.2.2.2.1) (e2 : s'.2.2.2.2.2.2.2.2 = chg s.2.2.2.2.2.2.2.1 s.2.2.2.2.2.2.2.2 A') : Hg s' (B', upU h.1 h.2.1, []) := by
  obtain ⟨⟨h1, h2, h3, h4⟩, h5⟩ := hH
  have hr : ∀ i A, s.2.2.2.2.2.2.2.2[i]? = some A → i ≤ s.2.2.2.2.2.2.2.1 → ∃ B, (h.2.1 ++ [h.1])[i]? = some B ∧ Bti A B := by
    intro i A hA hi
    obtain ⟨B, hB, ht⟩ := h4 i A hA
    rw [List.getElem?_append_left (by rw [List.length_append, List.length_singleton]; omega)] at hB
    exact ⟨B, hB, ht⟩
  unfold Hg Hr
  rw [e1, e2]
  generalize s.2.2.2.2.2.2.2.2 = H at *
  generalize s.2.2.2.2.2.2.2.1 = now at *
  obtain ⟨h0, UA, DA⟩ := h
  have h1 : now = UA.length := h1
  have h2 : H.length = UA.length + 1 + DA.length := h2
  have hr : ∀ i A, H[i]? = some A → i ≤ now → ∃ B, (UA ++ [h0])[i]? = some B ∧ Bti A B := hr
  show (_ = (upU h0 UA).length ∧ _ = (upU h0 UA).length + 1 + 0 ∧ _ ≤ 21 ∧ ∀ i A, _ = some A → ∃ B, (upU h0 UA ++ [B'] ++ [])[i]? = some B ∧ Bti A B) ∧ _
  rw [List.append_nil]
  unfold upN chg upU
  by_cases c : now + 1 < 21
  · rw [if_pos c, if_pos c, if_neg (by omega)]
    have hl : (H.take (now + 1)).length = now + 1 := by rw [List.length_take]; omega
    have hu : (UA ++ [h0]).length = now + 1 := by rw [List.length_append, List.length_singleton]; omega
    refine ⟨⟨by omega, by rw [List.length_append, List.length_singleton]; omega, by rw [List.length_append, List.length_singleton]; omega, fun i A hA => ?_⟩, fun A hA => ?_⟩
    · by_cases ci : i < now + 1
      · rw [List.getElem?_append_left (by omega), List.getElem?_take, if_pos ci] at hA
        rw [List.getElem?_append_left (by omega)]
        exact hr i A hA (by omega)
      · rw [List.getElem?_append_right (by omega), hl] at hA
        rw [List.getElem?_append_right (by omega), hu]
        have : i = now + 1 := by
          have := (List.getElem?_eq_some_iff.mp hA).1
          rw [List.length_singleton] at this
          omega
        subst this
        rw [Nat.sub_self] at hA ⊢
        cases hA
        exact ⟨B', rfl, hT⟩
    · rcases List.mem_append.mp hA with q | q
      · exact h5 A (List.mem_of_mem_take q)
      · rw [List.mem_singleton] at q; subst q; exact hG
  · have hn : now = 20 := by omega
    subst hn
    rw [if_neg c, if_neg c, if_pos (by omega)]
    cases UA with
    | nil => cases h1
    | cons u UA =>
      have h1 : 20 = UA.length + 1 := h1
      have h2 : H.length = UA.length + 1 + 1 + DA.length := h2
      show (_ = (UA ++ [h0]).length ∧ _ = (UA ++ [h0]).length + 1 + 0 ∧ _ ≤ 21 ∧ ∀ i A, _ = some A → ∃ B, (UA ++ [h0] ++ [B'])[i]? = some B ∧ Bti A B) ∧ _
      have hl : (H.drop 1).length = 20 := by rw [List.length_drop]; omega
      have hu : (UA ++ [h0]).length = 20 := by rw [List.length_append, List.length_singleton]; omega
      refine ⟨⟨by omega, by rw [List.length_append, List.length_singleton]; omega, by rw [List.length_append, List.length_singleton]; omega, fun i A hA => ?_⟩, fun A hA => ?_⟩
      · by_cases ci : i < 20
        · rw [List.getElem?_append_left (by omega), List.getElem?_drop] at hA
          rw [List.getElem?_append_left (by omega)]
          obtain ⟨B, hB, ht⟩ := hr (1 + i) A hA (by omega)
          refine ⟨B, ?_, ht⟩
          rw [Nat.add_comm 1 i] at hB
          exact hB
        · rw [List.getElem?_append_right (by omega), hl] at hA
          rw [List.getElem?_append_right (by omega), hu]
          have : i = 20 := by
            have := (List.getElem?_eq_some_iff.mp hA).1
            rw [List.length_singleton] at this
            omega
          subst this
          cases hA
          exact ⟨B', rfl, hT⟩
      · rcases List.mem_append.mp hA with q | q
        · exact h5 A (List.mem_of_mem_drop q)
        · rw [List.mem_singleton] at q; subst q; exact hG
section
variable {x b L i c9 w9 : Nat} {xs : Nat → Int32} {s s' : Kst} {c c' : Rct} {h h' : As × List As × List As} {σ σ' : St} {k23 : St → Nat → Nat → Nat → Nat → Int32 → Prop}
theorem br_2257 (hn : Nx x b L xs i k23) (hL : Lo x b L xs i s c h σ) : pL_law_2257 c9 w9 k23 σ b x (x + 98) (x + 143) (nI (6 * i)) := by
  obtain ⟨o, k⟩ := hL.ki
  obtain ⟨⟨h1, h2, h3, h4⟩, h5⟩ := hL.2.1
  obtain ⟨h0, UA, DA⟩ := h
  have h1 : s.2.2.2.2.2.2.2.1 = UA.length := h1
  have hdis : UA = [] ∨ ∃ U q, UA = U ++ [q] := by
    rcases List.eq_nil_or_concat UA with z | ⟨U, q, z⟩
    · exact Or.inl z
    · exact Or.inr ⟨U, q, by rw [z, List.concat_eq_append]⟩
  rcases hdis with rfl | ⟨U, q, rfl⟩
  · have h1 : s.2.2.2.2.2.2.2.1 = 0 := h1
    have hc := ki_undo k
    rw [h1] at hc
    have e : hist s (0 - 1) s.2.2.2.2.2.2.2.2 = s := by
      obtain ⟨a1, a2, a3, a4, a5, a6, a7, a8, a9⟩ := s
      cases h1
      rfl
    rw [e] at hc
    refine lw_k hL (br_v hn hL (h' := (h0, [], DA)) hc (fun σ1 hR => (ri_undo hR).mo (fun σ' v g => ?_)) (by omega) (by omega) hL.2.1)
    rcases g with ⟨_, g⟩ | ⟨U, q, g, _⟩
    · exact g
    · have g : [] = U ++ [q] := g
      cases U <;> cases g
  · have hl : (U ++ [q]).length = U.length + 1 := by rw [List.length_append]; rfl
    have hc := ki_undo k
    rw [h1, hl, if_pos (by omega), Nat.add_sub_cancel] at hc
    refine lw_k hL (br_v hn hL (h' := (q, U, DA ++ [h0])) hc (fun σ1 hR => (ri_undo hR).mo (fun σ' v g => ?_)) ?_ ?_ ⟨⟨rfl, ?_, h3, ?_⟩, h5⟩)
    · rcases g with ⟨g, _⟩ | ⟨U', q', g, hv⟩
      · have g : U ++ [q] = [] := g
        cases U <;> cases g
      · have g : U ++ [q] = U' ++ [q'] := g
        obtain ⟨rfl, g2⟩ := List.append_inj' g rfl
        cases g2
        exact hv
    · show _ + 20 * s.1.length ≤ _; omega
    · show _ + 5 * s.1.length ≤ _; omega
    · have h2 : s.2.2.2.2.2.2.2.2.length = (U ++ [q]).length + 1 + DA.length := h2
      show s.2.2.2.2.2.2.2.2.length = U.length + 1 + (DA ++ [h0]).length
      rw [List.length_append, List.length_singleton]
      omega
    · intro i A hA
      obtain ⟨B, hB, ht⟩ := h4 i A hA
      refine ⟨B, ?_, ht⟩
      rw [← hB]
      show (U ++ [q] ++ (DA ++ [h0]).reverse)[i]? = (U ++ [q] ++ [h0] ++ DA.reverse)[i]?
      rw [List.reverse_append, List.append_assoc (U ++ [q])]
      rfl
theorem br_2270 (hn : Nx x b L xs i k23) (hL : Lo x b L xs i s c h σ) : pL_law_2270 c9 w9 k23 σ b x (x + 98) (x + 143) (nI (6 * i)) := by
  obtain ⟨o, k⟩ := hL.ki
  obtain ⟨⟨h1, h2, h3, h4⟩, h5⟩ := hL.2.1
  obtain ⟨h0, UA, DA⟩ := h
  have h1 : s.2.2.2.2.2.2.2.1 = UA.length := h1
  have h2 : s.2.2.2.2.2.2.2.2.length = UA.length + 1 + DA.length := h2
  have hdis : DA = [] ∨ ∃ U q, DA = U ++ [q] := by
    rcases List.eq_nil_or_concat DA with z | ⟨U, q, z⟩
    · exact Or.inl z
    · exact Or.inr ⟨U, q, by rw [z, List.concat_eq_append]⟩
  rcases hdis with rfl | ⟨U, q, rfl⟩
  · have hc := ki_redo k
    have h2 : s.2.2.2.2.2.2.2.2.length = UA.length + 1 + 0 := h2
    rw [if_neg (by omega), if_neg (by omega)] at hc
    have e : hist s s.2.2.2.2.2.2.2.1 s.2.2.2.2.2.2.2.2 = s := rfl
    rw [e] at hc
    refine lw_k hL (br_v hn hL (h' := (h0, UA, [])) hc (fun σ1 hR => (ri_redo hR).mo (fun σ' v g => ?_)) (by omega) (by omega) hL.2.1)
    rcases g with ⟨_, g⟩ | ⟨U, q, g, _⟩
    · exact g
    · have g : [] = U ++ [q] := g
      cases U <;> cases g
  · have hl : (U ++ [q]).length = U.length + 1 := by rw [List.length_append]; rfl
    have hc := ki_redo k
    rw [if_pos (by omega), if_pos (by omega)] at hc
    refine lw_k hL (br_v hn hL (h' := (q, UA ++ [h0], U)) hc (fun σ1 hR => (ri_redo hR).mo (fun σ' v g => ?_)) ?_ ?_ ⟨⟨?_, ?_, h3, ?_⟩, h5⟩)
    · rcases g with ⟨g, _⟩ | ⟨U', q', g, hv⟩
      · have g : U ++ [q] = [] := g
        cases U <;> cases g
      · have g : U ++ [q] = U' ++ [q'] := g
        obtain ⟨rfl, g2⟩ := List.append_inj' g rfl
        cases g2
        rw [show s.2.2.2.2.2.2.2.2.length - 1 - (s.2.2.2.2.2.2.2.1 + 1) = U.length by omega]
        exact hv
    · show _ + 20 * s.1.length ≤ _; omega
    · show _ + 5 * s.1.length ≤ _; omega
    · show s.2.2.2.2.2.2.2.1 + 1 = (UA ++ [h0]).length
      rw [List.length_append, List.length_singleton]
      omega
    · show s.2.2.2.2.2.2.2.2.length = (UA ++ [h0]).length + 1 + U.length
      rw [List.length_append, List.length_singleton]
      omega
    · intro i A hA
      obtain ⟨B, hB, ht⟩ := h4 i A hA
      refine ⟨B, ?_, ht⟩
      rw [← hB]
      show (UA ++ [h0] ++ [q] ++ U.reverse)[i]? = (UA ++ [h0] ++ (U ++ [q]).reverse)[i]?
      rw [List.reverse_append, List.append_assoc (UA ++ [h0])]
      rfl
end
