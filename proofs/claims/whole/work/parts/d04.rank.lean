/-! ===== pure: books without rings: working in them ends ===== -/
theorem flt_lt {α : Type} {p q : α → Bool} : ∀ {l : List α}, (∀ x ∈ l, p x = true → q x = true) → (∃ x ∈ l, q x = true ∧ p x = false) → (l.filter p).length < (l.filter q).length
  | [], _, ⟨x, hx, _⟩ => (by cases hx)
  | a :: l, h, ⟨x, hx, h1, h2⟩ => by
    have hle : ∀ {l : List α}, (∀ x ∈ l, p x = true → q x = true) → (l.filter p).length ≤ (l.filter q).length := by
      intro l
      induction l with
      | nil => intro _; exact Nat.le_refl _
      | cons b l ih =>
        intro h
        have := ih (fun x hx => h x (List.mem_cons_of_mem _ hx))
        have hb := h b List.mem_cons_self
        rw [List.filter_cons, List.filter_cons]
        by_cases c : p b = true
        · rw [if_pos c, if_pos (hb c), List.length_cons, List.length_cons]; omega
        · rw [if_neg c]
          split
          · rw [List.length_cons]; omega
          · exact this
    have h' : ∀ x ∈ l, p x = true → q x = true := fun x hx => h x (List.mem_cons_of_mem _ hx)
    rw [List.filter_cons, List.filter_cons]
    rcases List.mem_cons.mp hx with rfl | hx
    · rw [if_neg (by rw [h2]; decide), if_pos h1, List.length_cons]
      have := hle h'
      omega
    · have ih := flt_lt h' ⟨x, hx, h1, h2⟩
      have ha := h a List.mem_cons_self
      by_cases c : p a = true
      · rw [if_pos c, if_pos (ha c), List.length_cons, List.length_cons]; omega
      · rw [if_neg c]
        split
        · rw [List.length_cons]; omega
        · exact ih
theorem flt_le {α : Type} {p : α → Bool} (l : List α) : (l.filter p).length ≤ l.length := List.length_filter_le p l
/-- all that a line keeps to -/
def Lok (p : Nat) (l : List It) : Prop := l.length ≤ 200 ∧ hts l 0 = some 1 ∧ hmx l 0 ≤ 63 ∧ ∀ it ∈ l, ikd p it
/-- a book in which working ends -/
def Bq (ns : List NE) (fs : List FE) : Prop := (Unq (ns.map (·.1)) ∧ Unq (fs.map (·.1))) ∧ Acy (Ths ns fs) ∧ fs.length ≤ 10 ∧ (∀ e ∈ Ths ns fs, unk ns fs e.2.2 = none) ∧ (∀ e ∈ ns, Lok 0 e.2.1) ∧ ∀ e ∈ fs, Lok e.2.1 e.2.2 ∧ 1 ≤ e.2.1 ∧ e.2.1 ≤ 4
/-- how many functions a list comes to -/
noncomputable def dkl (T : List Th) (fs : List FE) (l : List It) : Nat := (fs.filter fun e => @decide (Rch T l (1, e.1, e.2.2)) (Classical.propDecidable _)).length
noncomputable def dk (T : List Th) (fs : List FE) (w : Nat) : Nat := match fbd fs w with
  | none => 0
  | some l => dkl T fs l
theorem dec_t {p : Prop} : @decide p (Classical.propDecidable _) = true ↔ p := @decide_eq_true_iff p (Classical.propDecidable _)
theorem dec_f {p : Prop} : @decide p (Classical.propDecidable _) = false ↔ ¬ p := @decide_eq_false_iff_not p (Classical.propDecidable _)
theorem fbd_mem {fs : List FE} {w : Nat} {l : List It} (h : fbd fs w = some l) : ∃ e ∈ fs, e.1 = w ∧ e.2.2 = l := by
  unfold fbd at h
  cases hk : fix (fs.map (·.1)) w with
  | none => rw [hk] at h; cases h
  | some k =>
    rw [hk] at h
    have hg := fix_get hk
    rw [List.getElem?_map] at hg
    have h : fs[k]?.map (·.2.2) = some l := h
    cases he : fs[k]? with
    | none => rw [he] at hg; cases hg
    | some e =>
      rw [he] at hg h
      exact ⟨e, List.mem_of_getElem? he, Option.some.inj hg, Option.some.inj h⟩
theorem Ths_f {ns : List NE} {fs : List FE} {e : FE} (h : e ∈ fs) : ((1, e.1, e.2.2) : Th) ∈ Ths ns fs := Ths_mem.mpr (Or.inr ⟨e, h, rfl⟩)
theorem Ths_n {ns : List NE} {fs : List FE} {e : NE} (h : e ∈ ns) : ((0, e.1, e.2.1) : Th) ∈ Ths ns fs := Ths_mem.mpr (Or.inl ⟨e, h, rfl⟩)
theorem usb_of {l : List It} {f w : Nat} {it : It} (h : it ∈ l) (h1 : f = 0 ∧ it.1 = 31 ∨ f = 1 ∧ it.1 = 33) (h2 : it.2.1 = w) : usb l f w = true := by
  unfold usb
  rw [List.any_eq_true]
  refine ⟨it, h, ?_⟩
  unfold hit
  simp only [Bool.and_eq_true, Bool.or_eq_true, beq_iff_eq]
  exact ⟨h1, h2⟩
theorem Rch.trn {T : List Th} {a : List It} {y z : Th} (h : Rch T a y) (h2 : Rch T y.2.2 z) : Rch T a z := by
  obtain ⟨n, h2⟩ := h2
  induction n generalizing a y with
  | zero => exact h.snoc h2
  | succ n ih =>
    obtain ⟨y', h3, h4⟩ := h2
    exact ih (h.snoc h3) h4
/-- all a line calls is known, and stands lower -/
theorem Bq.line {ns : List NE} {fs : List FE} {l : List It} {p D : Nat} (h : Bq ns fs) (hl : Lok p l) (hp : p ≤ 4) (hu : unk ns fs l = none) (hD : ∀ e ∈ fs, usb l 1 e.1 = true → dkl (Ths ns fs) fs e.2.2 < D) : lGd (nvl ns) (fnp fs) (dk (Ths ns fs) fs) p D l := by
  obtain ⟨⟨u1, u2⟩, hac, hfl, hun, hns, hfs⟩ := h
  refine ⟨hl.1, fun it hit => ?_⟩
  have hk := unk_none.mp hu it hit
  have hi := hl.2.2.2 it hit
  refine ⟨?_, fun h33 h0 => ?_⟩
  · rcases hi with q | q | q | q | q
    · exact Or.inl q
    · exact Or.inr (Or.inl q)
    · obtain ⟨e, h1, h2⟩ := ik_name hk q
      exact Or.inr (Or.inr (Or.inl ⟨q, e.2.2, (fbm u1).mpr ⟨e, h1, h2, rfl⟩⟩))
    · exact Or.inr (Or.inr (Or.inr (Or.inl ⟨q.1, q.2, by omega⟩)))
    · exact Or.inr (Or.inr (Or.inr (Or.inr ⟨q, fun h0 => ik_fun hk q h0⟩)))
  · obtain ⟨e, h1, h2, h3⟩ := (fbm u2).mp (ik_fun hk h33 h0)
    have h2 : e.1 = it.2.1 := h2
    have hb : fbd fs it.2.1 = some e.2.2 := (fbm u2).mpr ⟨e, h1, h2, rfl⟩
    have := hD e h1 (usb_of hit (Or.inr ⟨rfl, h33⟩) h2.symm)
    unfold dk
    rw [hb]
    exact this
theorem Bq.rank {ns : List NE} {fs : List FE} (h : Bq ns fs) {l : List It} {e : FE} (he : e ∈ fs) (hu : usb l 1 e.1 = true) : dkl (Ths ns fs) fs e.2.2 < dkl (Ths ns fs) fs l := by
  have hA : Adj (Ths ns fs) l (1, e.1, e.2.2) := ⟨Ths_f he, hu⟩
  unfold dkl
  refine flt_lt (fun x hx hp => ?_) ⟨e, he, dec_t.mpr (Rch.one hA), dec_f.mpr (h.2.1 _ (Ths_f he))⟩
  exact dec_t.mpr (Rch.cons hA (dec_t.mp hp))
theorem Bq.le9 {ns : List NE} {fs : List FE} (h : Bq ns fs) {e : FE} (he : e ∈ fs) : dkl (Ths ns fs) fs e.2.2 < 10 := by
  have h1 : (fs.filter fun x => @decide (Rch (Ths ns fs) e.2.2 (1, x.1, x.2.2)) (Classical.propDecidable _)).length < (fs.filter fun _ => true).length := flt_lt (fun _ _ _ => rfl) ⟨e, he, rfl, dec_f.mpr (h.2.1 _ (Ths_f he))⟩
  have h2 := flt_le (p := fun _ => true) fs
  have := h.2.2.1
  unfold dkl
  omega
theorem Bq.bGd {ns : List NE} {fs : List FE} (h : Bq ns fs) : bGd (nvl ns) (fnp fs) (fbd fs) (dk (Ths ns fs) fs) := by
  intro w n hw
  obtain ⟨⟨u1, u2⟩, _, _, hun, _, hfs⟩ := id h
  obtain ⟨e, h1, h2, h3⟩ := (fbm u2).mp hw
  have hb : fbd fs w = some e.2.2 := (fbm u2).mpr ⟨e, h1, h2, rfl⟩
  have h3 : e.2.1 = n := h3
  obtain ⟨hl, hp1, hp4⟩ := hfs e h1
  have ed : dk (Ths ns fs) fs w = dkl (Ths ns fs) fs e.2.2 := by unfold dk; rw [hb]
  rw [ed, ← h3]
  exact ⟨e.2.2, hb, h.line hl hp4 (hun (1, e.1, e.2.2) (Ths_f h1)) (fun e' he' hu => h.rank he' hu), hl.2.1, hl.2.2.1⟩
/-- working a line ends -/
theorem Bq.work {ns : List NE} {fs : List FE} {l : List It} (h : Bq ns fs) (hl : Lok 0 l) (hu : unk ns fs l = none) : ∃ r, wrk (nvl ns) (fbd fs) 1000000 [] l [] 0 [] = some r := by
  refine wrk_some h.bGd 1000000 [] l [] 0 [] 0 10 0 ⟨rfl, rfl, Nat.le_refl _⟩ (h.line hl (Nat.zero_le _) hu (fun e he _ => h.le9 he)) (Nat.zero_le _) hl.2.1 hl.2.2.1 (Nat.zero_le _) ?_
  have := hl.1
  unfold phi
  show l.length + 0 + 202 * ((200 - 0) + (10 - 0)) < 1000000
  omega
theorem Ths_sm {ns ns' : List NE} {fs : List FE} (e : ns'.map (fun e => (e.1, e.2.1)) = ns.map fun e => (e.1, e.2.1)) : Ths ns' fs = Ths ns fs ∧ ns'.map (·.1) = ns.map (·.1) := by
  have e1 : ns'.map (fun e => ((0, e.1, e.2.1) : Th)) = ns.map fun e => (0, e.1, e.2.1) := by
    have := congrArg (List.map fun (p : Nat × List It) => ((0, p.1, p.2) : Th)) e
    rw [List.map_map, List.map_map] at this
    exact this
  have e2 : ns'.map (·.1) = ns.map (·.1) := by
    have := congrArg (List.map fun (p : Nat × List It) => p.1) e
    rw [List.map_map, List.map_map] at this
    exact this
  unfold Ths
  rw [e1]
  exact ⟨rfl, e2⟩
theorem unk_sm {ns ns' : List NE} {fs : List FE} {l : List It} (e : ns'.map (·.1) = ns.map (·.1)) : unk ns' fs l = unk ns fs l := by
  unfold unk ukf iknown
  rw [e]
theorem Bq.same {ns ns' : List NE} {fs : List FE} (h : Bq ns fs) (e : ns'.map (fun e => (e.1, e.2.1)) = ns.map fun e => (e.1, e.2.1)) : Bq ns' fs := by
  obtain ⟨⟨u1, u2⟩, hac, hfl, hun, hns, hfs⟩ := h
  obtain ⟨e1, e2⟩ := Ths_sm (fs := fs) e
  refine ⟨⟨by rw [e2]; exact u1, u2⟩, by rw [e1]; exact hac, hfl, fun t ht => ?_, fun t ht => ?_, hfs⟩
  · rw [unk_sm e2]
    rw [e1] at ht
    exact hun t ht
  · have : (t.1, t.2.1) ∈ ns'.map fun e => (e.1, e.2.1) := List.mem_map.mpr ⟨t, ht, rfl⟩
    rw [e] at this
    obtain ⟨t', h1, h2⟩ := List.mem_map.mp this
    have h3 : t'.2.1 = t.2.1 := congrArg Prod.snd h2
    rw [← h3]
    exact hns t' h1
theorem min_ex {α : Type} (g : α → Nat) : ∀ (L : List α), L ≠ [] → ∃ i ∈ L, ∀ j ∈ L, g i ≤ g j
  | [], h => absurd rfl h
  | [a], _ => ⟨a, List.mem_cons_self, fun j hj => by rw [List.mem_singleton.mp hj]; exact Nat.le_refl _⟩
  | a :: b :: L, _ => by
    obtain ⟨i, h1, h2⟩ := min_ex g (b :: L) (by simp)
    by_cases c : g a ≤ g i
    · refine ⟨a, List.mem_cons_self, fun j hj => ?_⟩
      rcases List.mem_cons.mp hj with rfl | hj
      · exact Nat.le_refl _
      · exact Nat.le_trans c (h2 j hj)
    · refine ⟨i, List.mem_cons_of_mem _ h1, fun j hj => ?_⟩
      rcases List.mem_cons.mp hj with rfl | hj
      · omega
      · exact h2 j hj
/-- one of those that are left is ready -/
theorem rdy_ex {T : List Th} (hac : Acy T) {L : List Nat} (hL : L ≠ []) (hb : ∀ i ∈ L, i < T.length) : ∃ i, rdyF T L = some i ∧ i ∈ L ∧ rdyP T L i := by
  have g : ∃ i ∈ L, rdyP T L i := by
    obtain ⟨i, h1, h2⟩ := min_ex (fun i => match T[i]? with
      | none => 0
      | some e => (T.filter fun x => @decide (Rch T e.2.2 x) (Classical.propDecidable _)).length) L hL
    obtain ⟨e, he⟩ := get_some (l := T) (hb i h1)
    refine ⟨i, h1, e, he, fun j hj hr => ?_⟩
    obtain ⟨e', h3, h4⟩ := hr
    have h5 := h2 j hj
    simp only [he, h3] at h5
    have h6 : (T.filter fun x => @decide (Rch T e'.2.2 x) (Classical.propDecidable _)).length < (T.filter fun x => @decide (Rch T e.2.2 x) (Classical.propDecidable _)).length :=
      flt_lt (fun x _ hp => dec_t.mpr (h4.trn (dec_t.mp hp))) ⟨e', List.mem_of_getElem? h3, dec_t.mpr h4, dec_f.mpr (hac e' (List.mem_of_getElem? h3))⟩
    omega
  obtain ⟨i, h1, h2⟩ := g
  unfold rdyF
  cases hf : L.find? fun i => @decide (rdyP T L i) (Classical.propDecidable _) with
  | none =>
    rw [List.find?_eq_none] at hf
    exact absurd (dec_t.mpr h2) (hf i h1)
  | some k => exact ⟨k, rfl, List.mem_of_find?_eq_some hf, dec_t.mp (List.find?_some (p := fun i => @decide (rdyP T L i) (Classical.propDecidable _)) hf)⟩
theorem rnw_s (T : List Th) (fs : List FE) (k : Nat) (ns : List NE) (L : List Nat) : rnw T fs (k + 1) ns L = if L = [] then some (Sum.inr ns) else (rdyF T L).bind fun i => ns[i]?.bind fun e => (wrk (nvl ns) (fbd fs) 1000000 [] e.2.1 [] 0 []).bind fun r => if r.1 = 0 then rnw T fs k (ns.set i (e.1, e.2.1, r.2.2.1)) (L.erase i) else some (Sum.inl e.1) := rfl
theorem set_sm {ns : List NE} {i : Nat} {e : NE} {q : Qv} (he : ns[i]? = some e) : (ns.set i (e.1, e.2.1, q)).map (fun e => (e.1, e.2.1)) = ns.map fun e => (e.1, e.2.1) := by
  apply List.ext_getElem?
  intro j
  rw [List.getElem?_map, List.getElem?_map, List.getElem?_set]
  split
  · rename_i c
    subst c
    split
    · rw [he]; rfl
    · rename_i c2
      exact absurd (List.getElem?_eq_some_iff.mp he).1 c2
  · rfl
/-- working anew ends -/
theorem rnw_some {ns0 : List NE} {fs : List FE} (h0 : Bq ns0 fs) : ∀ (k : Nat) (ns : List NE) (L : List Nat), L.length ≤ k → ns.map (fun e => (e.1, e.2.1)) = ns0.map (fun e => (e.1, e.2.1)) → (∀ i ∈ L, i < ns0.length) → ∃ res, rnw (Ths ns0 fs) fs k ns L = some res := by
  intro k
  induction k with
  | zero =>
    intro ns L hl _ _
    have e : rnw (Ths ns0 fs) fs 0 ns L = if L = [] then some (Sum.inr ns) else none := rfl
    rw [e, if_pos (List.length_eq_zero_iff.mp (by omega))]
    exact ⟨_, rfl⟩
  | succ k ih =>
    intro ns L hl hsm hb
    rw [rnw_s]
    by_cases c : L = []
    · rw [if_pos c]; exact ⟨_, rfl⟩
    rw [if_neg c]
    have hTl : ns0.length ≤ (Ths ns0 fs).length := by
      rw [Ths_len]
      omega
    obtain ⟨i, h1, h2, h3⟩ := rdy_ex h0.2.1 c (fun i hi => by have := hb i hi; omega)
    rw [h1]
    have hlen : ns.length = ns0.length := by
      have := congrArg List.length hsm
      rw [List.length_map, List.length_map] at this
      exact this
    obtain ⟨e, he⟩ := get_some (l := ns) (i := i) (by rw [hlen]; exact hb i h2)
    have hq := h0.same hsm
    have hm := List.mem_of_getElem? he
    obtain ⟨r, hr⟩ := hq.work (hq.2.2.2.2.1 e hm) (hq.2.2.2.1 _ (Ths_n hm))
    show ∃ res, (ns[i]?.bind fun e => (wrk (nvl ns) (fbd fs) 1000000 [] e.2.1 [] 0 []).bind fun r => if r.1 = 0 then rnw (Ths ns0 fs) fs k (ns.set i (e.1, e.2.1, r.2.2.1)) (L.erase i) else some (Sum.inl e.1)) = some res
    rw [he]
    show ∃ res, ((wrk (nvl ns) (fbd fs) 1000000 [] e.2.1 [] 0 []).bind fun r => if r.1 = 0 then rnw (Ths ns0 fs) fs k (ns.set i (e.1, e.2.1, r.2.2.1)) (L.erase i) else some (Sum.inl e.1)) = some res
    rw [hr]
    show ∃ res, (if r.1 = 0 then rnw (Ths ns0 fs) fs k (ns.set i (e.1, e.2.1, r.2.2.1)) (L.erase i) else some (Sum.inl e.1)) = some res
    by_cases cz : r.1 = 0
    · rw [if_pos cz]
      refine ih _ _ ?_ ((set_sm he).trans hsm) (fun j hj => hb j (List.mem_of_mem_erase hj))
      rw [List.length_erase_of_mem h2]
      omega
    · rw [if_neg cz]; exact ⟨_, rfl⟩
