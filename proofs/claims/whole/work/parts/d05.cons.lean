/-! ===== pure: what does not come to a thing is worked alike without it ===== -/
theorem Rch_mono {T : List Th} {l : List It} {it : It} {e : Th} (h : it ∈ l) (hr : Rch T [it] e) : Rch T l e := by
  have hm : ∀ f w, usb [it] f w = true → usb l f w = true := by
    intro f w hu
    unfold usb at hu ⊢
    rw [List.any_eq_true] at hu ⊢
    obtain ⟨x, h1, h2⟩ := hu
    rw [List.mem_singleton] at h1
    subst h1
    exact ⟨x, h, h2⟩
  obtain ⟨n, hn⟩ := hr
  cases n with
  | zero => exact ⟨0, hn.1, hm _ _ hn.2⟩
  | succ n =>
    obtain ⟨e', h1, h2⟩ := hn
    exact ⟨n + 1, e', ⟨h1.1, hm _ _ h1.2⟩, h2⟩
theorem wrk_off {T : List Th} {t : Th} {ns ns' : List NE} {fs fs' : List FE} (hT : ∀ w l, fbd fs w = some l → ((1, w, l) : Th) ∈ T) (ht : t ∈ T) (hn : ∀ w, (t.1 = 0 → w ≠ t.2.1) → nvl ns w = nvl ns' w) (hf : ∀ w, (t.1 = 1 → w ≠ t.2.1) → fbd fs w = fbd fs' w) {l : List It} (hl : ¬ Rch T l t) (n : Nat) : wrk (nvl ns) (fbd fs) n [] l [] 0 [] = wrk (nvl ns') (fbd fs') n [] l [] 0 [] := by
  refine wrk_nv (C := fun it => ¬ Rch T [it] t) (fun it hc h33 h0 l' hl' x hx hr => hc ?_) (fun it hc h31 => hn _ (fun h0 e => hc ?_)) (fun it hc h33 _ => hf _ (fun h1 e => hc ?_)) n [] l [] 0 [] (fun it hit hr => hl (Rch_mono hit hr)) (fun f hf => (by cases hf))
  · exact Rch.cons (e := (1, it.2.1, l')) ⟨hT _ _ hl', usb_of List.mem_cons_self (Or.inr ⟨rfl, h33⟩) rfl⟩ (Rch_mono hx hr)
  · exact Rch.one ⟨ht, usb_of List.mem_cons_self (Or.inl ⟨h0, h31⟩) e⟩
  · exact Rch.one ⟨ht, usb_of List.mem_cons_self (Or.inr ⟨h1, h33⟩) e⟩
/-- each name's value is that of its text -/
def Cn1 (ns : List NE) (fs : List FE) (e : NE) : Prop := ∃ r, wrk (nvl ns) (fbd fs) 1000000 [] e.2.1 [] 0 [] = some r ∧ r.1 = 0 ∧ r.2.2.1 = e.2.2
def Cn (ns : List NE) (fs : List FE) : Prop := ∀ e ∈ ns, Cn1 ns fs e
theorem fbd_T {ns : List NE} {fs : List FE} {w : Nat} {l : List It} (h : fbd fs w = some l) : ((1, w, l) : Th) ∈ Ths ns fs := by
  obtain ⟨e, h1, h2, h3⟩ := fbd_mem h
  rw [← h2, ← h3]
  exact Ths_f h1
theorem nvl_set {ns : List NE} {i : Nat} {e : NE} {q : Qv} (hu : Unq (ns.map (·.1))) (he : ns[i]? = some e) {w : Nat} (hw : w ≠ e.1) : nvl ns w = nvl (ns.set i (e.1, e.2.1, q)) w := by
  have e2 := (Ths_sm (fs := []) (set_sm (q := q) he)).2
  unfold nvl
  rw [e2]
  cases hk : fix (ns.map (·.1)) w with
  | none => rfl
  | some k =>
    show ns[k]?.map (·.2.2) = (ns.set i (e.1, e.2.1, q))[k]?.map (·.2.2)
    rw [List.getElem?_set]
    by_cases c : i = k
    · subst c
      exfalso
      have hg := fix_get hk
      rw [List.getElem?_map, he] at hg
      exact hw (Option.some.inj hg).symm
    · rw [if_neg c]
theorem Ths_gt {ns : List NE} {fs : List FE} {i : Nat} {e : NE} (he : ns[i]? = some e) : (Ths ns fs)[i]? = some (0, e.1, e.2.1) := by
  unfold Ths
  rw [List.getElem?_append_left (by rw [List.length_map]; exact (List.getElem?_eq_some_iff.mp he).1), List.getElem?_map, he]
  rfl
theorem rnw_cns {ns0 : List NE} {fs : List FE} (h0 : Bq ns0 fs) : ∀ (k : Nat) (ns ns' : List NE) (L : List Nat), L.Nodup → ns.map (fun e => (e.1, e.2.1)) = ns0.map (fun e => (e.1, e.2.1)) → (∀ j e, ns[j]? = some e → j ∉ L → Cn1 ns fs e ∧ ∀ i ∈ L, ¬ rS (Ths ns0 fs) e.2.1 i) → rnw (Ths ns0 fs) fs k ns L = some (.inr ns') → Cn ns' fs := by
  intro k
  induction k with
  | zero =>
    intro ns ns' L _ _ hI h
    have e : rnw (Ths ns0 fs) fs 0 ns L = if L = [] then some (Sum.inr ns) else none := rfl
    rw [e] at h
    split at h
    · rename_i c
      cases h
      intro e he
      obtain ⟨j, hj⟩ := List.getElem?_of_mem he
      exact (hI j e hj (by rw [c]; simp)).1
    · cases h
  | succ k ih =>
    intro ns ns' L hnd hsm hI h
    rw [rnw_s] at h
    split at h
    · rename_i c
      cases h
      intro e he
      obtain ⟨j, hj⟩ := List.getElem?_of_mem he
      exact (hI j e hj (by rw [c]; simp)).1
    · rename_i c
      cases hi : rdyF (Ths ns0 fs) L with
      | none => rw [hi] at h; cases h
      | some i =>
        rw [hi] at h
        have h : (ns[i]?.bind fun e => (wrk (nvl ns) (fbd fs) 1000000 [] e.2.1 [] 0 []).bind fun r => if r.1 = 0 then rnw (Ths ns0 fs) fs k (ns.set i (e.1, e.2.1, r.2.2.1)) (L.erase i) else some (Sum.inl e.1)) = some (.inr ns') := h
        have hiL : i ∈ L := List.mem_of_find?_eq_some hi
        have hrd : rdyP (Ths ns0 fs) L i := dec_t.mp (List.find?_some (p := fun i => @decide (rdyP (Ths ns0 fs) L i) (Classical.propDecidable _)) hi)
        cases he : ns[i]? with
        | none => rw [he] at h; cases h
        | some e =>
          rw [he] at h
          have h : ((wrk (nvl ns) (fbd fs) 1000000 [] e.2.1 [] 0 []).bind fun r => if r.1 = 0 then rnw (Ths ns0 fs) fs k (ns.set i (e.1, e.2.1, r.2.2.1)) (L.erase i) else some (Sum.inl e.1)) = some (.inr ns') := h
          cases hr : wrk (nvl ns) (fbd fs) 1000000 [] e.2.1 [] 0 [] with
          | none => rw [hr] at h; cases h
          | some r =>
            rw [hr] at h
            have h : (if r.1 = 0 then rnw (Ths ns0 fs) fs k (ns.set i (e.1, e.2.1, r.2.2.1)) (L.erase i) else some (Sum.inl e.1)) = some (.inr ns') := h
            split at h
            · rename_i cz
              have hq := h0.same hsm
              have eT := (Ths_sm (fs := fs) hsm).1
              have hTi : (Ths ns0 fs)[i]? = some (0, e.1, e.2.1) := by rw [← eT]; exact Ths_gt he
              have htm : ((0, e.1, e.2.1) : Th) ∈ Ths ns0 fs := List.mem_of_getElem? hTi
              have hoff : ∀ l, ¬ rS (Ths ns0 fs) l i → wrk (nvl ns) (fbd fs) 1000000 [] l [] 0 [] = wrk (nvl (ns.set i (e.1, e.2.1, r.2.2.1))) (fbd fs) 1000000 [] l [] 0 [] := fun l hl =>
                wrk_off (T := Ths ns0 fs) (t := (0, e.1, e.2.1)) (fun w l' hb => fbd_T hb) htm (fun w hw => nvl_set hq.1.1 he (hw rfl)) (fun _ _ => rfl) (fun hr => hl ⟨_, hTi, hr⟩) 1000000
              have hown : ∀ j ∈ L, ¬ rS (Ths ns0 fs) e.2.1 j := by
                obtain ⟨e', h1, h2⟩ := hrd
                rw [hTi] at h1
                cases h1
                exact h2
              refine ih _ ns' _ (hnd.erase i) ((set_sm he).trans hsm) (fun j ej hj hnj => ?_) h
              have hmem : ∀ x, x ∈ L.erase i ↔ x ≠ i ∧ x ∈ L := fun x => hnd.mem_erase_iff
              rw [List.getElem?_set] at hj
              by_cases c1 : i = j
              · subst c1
                rw [if_pos rfl, if_pos (List.getElem?_eq_some_iff.mp he).1] at hj
                cases hj
                refine ⟨⟨r, ?_, cz, rfl⟩, fun x hx => hown x ((hmem x).mp hx).2⟩
                show wrk (nvl (ns.set i (e.1, e.2.1, r.2.2.1))) (fbd fs) 1000000 [] e.2.1 [] 0 [] = some r
                rw [← hoff _ (hown i hiL)]
                exact hr
              · rw [if_neg c1] at hj
                have hjL : j ∉ L := fun z => hnj ((hmem j).mpr ⟨fun y => c1 y.symm, z⟩)
                obtain ⟨⟨r', g1, g2, g3⟩, g4⟩ := hI j ej hj hjL
                refine ⟨⟨r', ?_, g2, g3⟩, fun x hx => g4 x ((hmem x).mp hx).2⟩
                rw [← hoff _ (g4 i hiL)]
                exact g1
            · cases h
/-- the users of a thing: what comes to a user is one -/
theorem usrL_c {ns : List NE} {fs : List FE} {j : Nat} {t : Th} (ht : (Ths ns fs)[j]? = some t) {i : Nat} {e : NE} (he : ns[i]? = some e) (hi : i ∉ usrL ns fs j) : ¬ Rch (Ths ns fs) e.2.1 t ∧ ∀ x ∈ usrL ns fs j, ¬ rS (Ths ns fs) e.2.1 x := by
  have hno : ¬ Rch (Ths ns fs) e.2.1 t := by
    intro hr
    refine hi ?_
    unfold usrL
    rw [List.mem_filter]
    exact ⟨List.mem_range.mpr (List.getElem?_eq_some_iff.mp he).1, dec_t.mpr ⟨_, Ths_gt he, t, ht, hr⟩⟩
  refine ⟨hno, fun x hx hr => hno ?_⟩
  unfold usrL at hx
  rw [List.mem_filter] at hx
  obtain ⟨e', h1, h2⟩ := dec_t.mp hx.2
  obtain ⟨e2, h3, h4⟩ := hr
  rw [h1] at h3
  cases h3
  obtain ⟨t', h5, h6⟩ := h2
  rw [ht] at h5
  cases h5
  exact h4.trn h6
theorem usrL_nd (ns : List NE) (fs : List FE) (j : Nat) : (usrL ns fs j).Nodup := by
  unfold usrL
  exact List.Pairwise.filter _ List.nodup_range
theorem usrL_lt {ns : List NE} {fs : List FE} {j i : Nat} (h : i ∈ usrL ns fs j) : i < ns.length := by
  unfold usrL at h
  rw [List.mem_filter] at h
  exact List.mem_range.mp h.1
theorem usrL_len (ns : List NE) (fs : List FE) (j : Nat) : (usrL ns fs j).length ≤ ns.length := by
  unfold usrL
  have := List.length_filter_le (fun i => @decide (∃ e, (Ths ns fs)[i]? = some e ∧ rS (Ths ns fs) e.2.2 j) (Classical.propDecidable _)) (List.range ns.length)
  rw [List.length_range] at this
  exact this
