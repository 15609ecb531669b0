/-! ===== the class' book: what uses what ===== -/
/-- the nodes that stand in a sum -/
def uS (T : List Th) (l : List It) (j : Nat) : Prop := ∃ e, T[j]? = some e ∧ usb l e.1 e.2.1 = true
/-- the nodes that a sum leads to -/
def rS (T : List Th) (l : List It) (j : Nat) : Prop := ∃ e, T[j]? = some e ∧ Rch T l e
theorem Ths_get (ns : List NE) (fs : List FE) (j : Nat) : (Ths ns fs)[j]? = if j < ns.length then ns[j]?.map (fun e => ((0, e.1, e.2.1) : Th)) else fs[j - ns.length]?.map (fun e => ((1, e.1, e.2.2) : Th)) := by
  unfold Ths
  by_cases c : j < ns.length
  · rw [if_pos c, List.getElem?_append_left (by rw [List.length_map]; exact c), List.getElem?_map]
  · rw [if_neg c, List.getElem?_append_right (by rw [List.length_map]; omega), List.getElem?_map, List.length_map]
theorem Ths_len (ns : List NE) (fs : List FE) : (Ths ns fs).length = ns.length + fs.length := by
  unfold Ths
  rw [List.length_append, List.length_map, List.length_map]
theorem uS_cons {T : List Th} {it : It} {l : List It} {j : Nat} : uS T (it :: l) j ↔ uS T [it] j ∨ uS T l j := by
  unfold uS usb
  simp only [List.any_cons, Bool.or_eq_true, List.any_nil, or_false]
  constructor
  · rintro ⟨e, h1, h2 | h2⟩
    · exact Or.inl ⟨e, h1, by simpa using h2⟩
    · exact Or.inr ⟨e, h1, h2⟩
  · rintro (⟨e, h1, h2⟩ | ⟨e, h1, h2⟩)
    · exact ⟨e, h1, Or.inl (by simpa using h2)⟩
    · exact ⟨e, h1, Or.inr h2⟩
theorem uS_one {T : List Th} {it : It} {j : Nat} : uS T [it] j ↔ ∃ e, T[j]? = some e ∧ (e.1 = 0 ∧ it.1 = 31 ∨ e.1 = 1 ∧ it.1 = 33) ∧ it.2.1 = e.2.1 := by
  unfold uS usb hit
  simp only [List.any_cons, List.any_nil, Bool.or_false, Bool.and_eq_true, Bool.or_eq_true, beq_iff_eq]
theorem uS_name {ns : List NE} {fs : List FE} {it : It} {j : Nat} (hN : Nod ns fs) (h : it.1 = 31) : uS (Ths ns fs) [it] j ↔ fix (ns.map (·.1)) it.2.1 = some j := by
  rw [uS_one]
  constructor
  · rintro ⟨e, h1, h2, h3⟩
    have h0 : e.1 = 0 := by omega
    rw [Ths_get] at h1
    split at h1
    · rename_i hj
      rw [List.getElem?_eq_getElem hj] at h1
      simp only [Option.map_some, Option.some.injEq] at h1
      subst h1
      cases hf : fix (ns.map (·.1)) it.2.1 with
      | none =>
        exfalso
        unfold fix at hf
        rw [List.findIdx?_eq_none_iff] at hf
        have := hf (ns[j].1) (List.mem_map.mpr ⟨_, List.getElem_mem hj, rfl⟩)
        simp [h3] at this
      | some k =>
        have hg := fix_get hf
        have hj2 : (ns.map (·.1))[j]? = some it.2.1 := by
          rw [List.getElem?_map, List.getElem?_eq_getElem hj, Option.map_some, h3]
        have hk := (List.getElem?_eq_some_iff.mp hg).1
        have := (List.getElem?_inj hk hN.1).mp (hg.trans hj2.symm)
        rw [this]
    · exfalso
      cases hf : fs[j - ns.length]? with
      | none => rw [hf] at h1; cases h1
      | some e' =>
        rw [hf] at h1
        cases h1
        cases h0
  · intro hf
    have hg := fix_get hf
    rw [List.getElem?_map] at hg
    cases he : ns[j]? with
    | none => rw [he] at hg; cases hg
    | some e =>
      rw [he] at hg
      simp only [Option.map_some, Option.some.injEq] at hg
      have hj := (List.getElem?_eq_some_iff.mp he).1
      exact ⟨(0, e.1, e.2.1), by rw [Ths_get, if_pos hj, he]; rfl, Or.inl ⟨rfl, h⟩, hg.symm⟩
theorem uS_call {ns : List NE} {fs : List FE} {it : It} {j : Nat} (hN : Nod ns fs) (h : it.1 = 33) : uS (Ths ns fs) [it] j ↔ ∃ k, fix (fs.map (·.1)) it.2.1 = some k ∧ j = ns.length + k := by
  rw [uS_one]
  constructor
  · rintro ⟨e, h1, h2, h3⟩
    have h0 : e.1 = 1 := by omega
    rw [Ths_get] at h1
    split at h1
    · exfalso
      cases hf : ns[j]? with
      | none => rw [hf] at h1; cases h1
      | some e' =>
        rw [hf] at h1
        cases h1
        cases h0
    · rename_i hj
      cases he : fs[j - ns.length]? with
      | none => rw [he] at h1; cases h1
      | some e' =>
        rw [he] at h1
        cases h1
        cases hf : fix (fs.map (·.1)) it.2.1 with
        | none =>
          exfalso
          unfold fix at hf
          rw [List.findIdx?_eq_none_iff] at hf
          have := hf (e'.1) (List.mem_map.mpr ⟨_, List.mem_of_getElem? he, rfl⟩)
          simp at this
          exact this h3.symm
        | some k =>
          have hg := fix_get hf
          have hj2 : (fs.map (·.1))[j - ns.length]? = some it.2.1 := by
            rw [List.getElem?_map, he, Option.map_some, h3]
          have hk := (List.getElem?_eq_some_iff.mp hg).1
          have := (List.getElem?_inj hk hN.2).mp (hg.trans hj2.symm)
          exact ⟨k, rfl, by omega⟩
  · rintro ⟨k, hf, rfl⟩
    have hg := fix_get hf
    rw [List.getElem?_map] at hg
    cases he : fs[k]? with
    | none => rw [he] at hg; cases hg
    | some e =>
      rw [he] at hg
      simp only [Option.map_some, Option.some.injEq] at hg
      exact ⟨(1, e.1, e.2.2), by rw [Ths_get, if_neg (by omega), show ns.length + k - ns.length = k by omega, he]; rfl, Or.inr ⟨rfl, h⟩, hg.symm⟩
theorem uS_none {T : List Th} {it : It} {j : Nat} (h1 : it.1 ≠ 31) (h2 : it.1 ≠ 33) : ¬ uS T [it] j := by
  rw [uS_one]
  rintro ⟨e, _, h, _⟩
  omega
theorem cb_usedBy_loop {σ : St} {x b na fa s : Nat} {ns : List NE} {fs : List FE} {l : List It} (hB : KBk σ x b na fa ns fs) (hs : KSum σ x s l) (hN : Nod ns fs) (hkw : ∀ e ∈ fs, known e.1 = 0) : ∀ (n k : Nat) (v : Int32) (p : Nat → Prop), l.length - k < n → k ≤ l.length → Bm v p →
    ∃ v', fX0_usedBy_4 n σ b s v (nI k) = some (σ, v') ∧ Bm v' (fun j => p j ∨ uS (Ths ns fs) (l.drop k) j) := by
  obtain ⟨ka, oa, pa, ca', na', nn, ⟨f1, f2, f3, f4, f5⟩, al1, al2, hnn, hi⟩ := hs.ac
  have hl := hs.1.2.2
  have hln := hB.1.2.2
  intro n
  induction n with
  | zero => intro k v p h; omega
  | succ n ih =>
    intro k v p hn hk hv
    have hx : Hx (fX0_usedBy_4 (n + 1) σ b s v (nI k)) (fun σ' v' => σ' = σ ∧ Bm v' (fun j => p j ∨ uS (Ths ns fs) (l.drop k) j)) := by
      rw [n_fX0_usedBy_4, f1]
      refine hx_bs ?_
      rw [al1]
      refine hx_bs (Hx.ce (sm_le (by omega) (by omega)) (fun c => ?_) (fun c => ?_))
      · rw [List.drop_eq_nil_of_le c]
        exact Hx.ret ⟨rfl, hv.cg fun j _ => ⟨Or.inl, fun h => h.elim id (fun ⟨e, _, h⟩ => by cases h)⟩⟩
      · have hk2 : k < l.length := by omega
        have hj : l[k]? = some l[k] := List.getElem?_eq_getElem hk2
        obtain ⟨hib, g2, g3, g4, g5, g6⟩ := hi k _ hj
        have hk1 : k + 1 ≤ l.length := hk2
        have hn1 : l.length - (k + 1) < n := by omega
        rw [List.drop_eq_getElem_cons hk2]
        generalize l[k] = it at *
        have hcs := ckd_cases hib
        have b2 := hib.2.1
        have hck : ckd it < 100 := by clear hib; rcases hcs with h | h | h | h | h | h | h <;> omega
        have hc22 : ckd it = 22 → it.1 = 31 := by clear hib; intro q; rcases hcs with h | h | h | h | h | h | h <;> omega
        have hc31 : it.1 = 31 → ckd it = 22 := by clear hib; intro q; rcases hcs with h | h | h | h | h | h | h <;> omega
        have hc9 : ckd it = 9 → it.1 = 33 := by clear hib; intro q; rcases hcs with h | h | h | h | h | h | h <;> omega
        have hc33 : it.1 = 33 → ckd it ≠ 9 → known it.2.1 ≠ 0 := by clear hib; intro q q2; rcases hcs with h | h | h | h | h | h | h <;> omega
        clear hcs hib
        have h80 : ∀ (w : Int32) (q : Nat → Prop), Bm w q → (∀ j, j < 32 → (q j ↔ p j ∨ uS (Ths ns fs) [it] j)) → Hx (fX0_usedBy_80 (fX0_usedBy_4 n) σ b s w (nI k)) (fun σ' v' => σ' = σ ∧ Bm v' (fun j => p j ∨ uS (Ths ns fs) (it :: l.drop (k + 1)) j)) := by
          intro w q hw hq
          obtain ⟨v', e, hv'⟩ := ih (k + 1) w q hn1 hk1 hw
          rw [n_fX0_usedBy_80]
          refine hx_nm ?_
          rw [sm_add, e]
          refine Hx.ret ⟨rfl, hv'.cg fun j hj => ?_⟩
          rw [uS_cons, hq j hj, or_assoc]
        have h35 : ∀ f : Nat, f ≤ 1 → (f = 0 ∧ it.1 = 31 ∧ ckd it = 22 ∨ f = 1 ∧ it.1 = 33 ∧ ckd it = 9) → Hx (fX0_usedBy_35 (fX0_usedBy_4 n) σ b s v (nI k)) (fun σ' v' => σ' = σ ∧ Bm v' (fun j => p j ∨ uS (Ths ns fs) (it :: l.drop (k + 1)) j)) := by
          intro f hf hff
          have h58 : Hx (fX0_usedBy_58 (fX0_usedBy_4 n) σ b s v (nI k) b (nI it.2.1) (nI f)) (fun σ' v' => σ' = σ ∧ Bm v' (fun j => p j ∨ uS (Ths ns fs) (it :: l.drop (k + 1)) j)) := by
            rw [n_fX0_usedBy_58, (ob_f hB).2.2.2.2]
            refine hx_bs ?_
            have hbit : ∀ i : Nat, i < 30 → (∀ j, uS (Ths ns fs) [it] j ↔ j = i) → Hx (fX0_usedBy_78 (fX0_usedBy_4 n) σ b s (nI k) v ((nI 1) <<< ((nI i) &&& (nI 31)))) (fun σ' v' => σ' = σ ∧ Bm v' (fun j => p j ∨ uS (Ths ns fs) (it :: l.drop (k + 1)) j)) := by
              intro i hi hu
              rw [n_fX0_usedBy_78]
              refine hx_nm (h80 _ _ (bm_or hv (bm_shl (by omega))) (fun j _ => by rw [hu]))
            have hno : (∀ j, ¬ uS (Ths ns fs) [it] j) → Hx (fX0_usedBy_78 (fX0_usedBy_4 n) σ b s (nI k) v (nI 0)) (fun σ' v' => σ' = σ ∧ Bm v' (fun j => p j ∨ uS (Ths ns fs) (it :: l.drop (k + 1)) j)) := by
              intro hu
              rw [n_fX0_usedBy_78]
              refine hx_nm (h80 _ _ (bm_or hv bm_0) (fun j _ => ⟨fun h => h.elim Or.inl (fun h => h.elim), fun h => h.elim Or.inl (fun h => absurd h (hu j))⟩))
            rcases hff with ⟨rfl, h31, _⟩ | ⟨rfl, h33, _⟩
            · rw [cb_findN hB b2]
              cases hf : fix (ns.map (·.1)) it.2.1 with
              | none =>
                refine hx_cs (Hx.cs (fun _ => hno (fun j h => ?_)) (fun c => absurd rfl c))
                rw [uS_name hN h31, hf] at h
                cases h
              | some i =>
                have hi9 := fix_lt hf
                rw [List.length_map] at hi9
                refine hx_cs (Hx.ce (thn_m1 (fun k hk => by cases hk; omega)) (fun c => by cases c) (fun _ => ?_))
                rw [thn_nI, Nat.zero_add]
                exact hbit i (by omega) (fun j => by rw [uS_name hN h31, hf]; exact ⟨fun h => by cases h; rfl, fun h => by rw [h]⟩)
            · rw [cb_findF hB b2]
              cases hf : fix (fs.map (·.1)) it.2.1 with
              | none =>
                refine hx_cs (Hx.cs (fun _ => hno (fun j h => ?_)) (fun c => absurd rfl c))
                rw [uS_call hN h33, hf] at h
                obtain ⟨k, h, _⟩ := h
                cases h
              | some i =>
                have hi9 := fix_lt hf
                rw [List.length_map] at hi9
                refine hx_cs (Hx.ce (thn_m1 (fun k hk => by cases hk; omega)) (fun c => by cases c) (fun _ => ?_))
                rw [thn_nI]
                exact hbit (ns.length + i) (by omega) (fun j => by rw [uS_call hN h33, hf]; exact ⟨fun ⟨k, h, e⟩ => by cases h; exact e, fun h => ⟨i, rfl, h⟩⟩)
          have ho9 : it.1 ≠ 30 := by omega
          rw [n_fX0_usedBy_35, f2]
          refine hx_bs ?_
          rw [g5 ho9]
          refine hx_bs ?_
          rw [f1]
          refine hx_bs ?_
          rw [g2]
          refine hx_bs ?_
          rcases hff with ⟨rfl, _, e⟩ | ⟨rfl, _, e⟩
          · rw [e]
            exact Hx.ce (sm_eq (by omega) (by omega)) (fun q => by omega) (fun _ => h58)
          · rw [e]
            exact Hx.cs (fun _ => h58) (fun q => absurd rfl q)
        have hskip : (∀ j, ¬ uS (Ths ns fs) [it] j) → Hx (fX0_usedBy_80 (fX0_usedBy_4 n) σ b s v (nI k)) (fun σ' v' => σ' = σ ∧ Bm v' (fun j => p j ∨ uS (Ths ns fs) (it :: l.drop (k + 1)) j)) :=
          fun hu => h80 v p hv (fun j _ => ⟨Or.inl, fun h => h.elim id (fun h => absurd h (hu j))⟩)
        refine hx_bs ?_
        rw [g2]
        refine hx_bs (Hx.ce (sm_eq (by omega) (by omega)) (fun c => h35 0 (by omega) (Or.inl ⟨rfl, hc22 c, c⟩)) (fun c => ?_))
        refine hx_bs ?_
        rw [g2]
        refine hx_bs (Hx.ce (sm_eq (by omega) (by omega)) (fun c9 => h35 1 (by omega) (Or.inr ⟨rfl, hc9 c9, c9⟩)) (fun c9 => ?_))
        refine hskip (fun j h => ?_)
        by_cases h33 : it.1 = 33
        · rw [uS_call hN h33] at h
          obtain ⟨k9, h9, _⟩ := h
          have hg := fix_get h9
          obtain ⟨e9, he9, hw9⟩ := List.mem_map.mp (List.mem_of_getElem? hg)
          have := hkw e9 he9
          rw [hw9] at this
          exact hc33 h33 c9 this
        · exact uS_none (fun q => c (hc31 q)) h33 h
    obtain ⟨σ', v', e, rfl, h2⟩ := hx
    exact ⟨v', e, h2⟩
theorem cb_usedBy {σ : St} {x b na fa s : Nat} {ns : List NE} {fs : List FE} {l : List It} (hB : KBk σ x b na fa ns fs) (hs : KSum σ x s l) (hN : Nod ns fs) (hkw : ∀ e ∈ fs, known e.1 = 0) : ∃ v, fX0_usedBy σ b s = some (σ, v) ∧ Bm v (uS (Ths ns fs) l) := by
  have hl := hs.1.2.2
  obtain ⟨v, e, hv⟩ := cb_usedBy_loop hB hs hN hkw FU 0 (nI 0) (fun _ => False) (by show l.length - 0 < 4294967296; omega) (Nat.zero_le _) bm_0
  refine ⟨v, by rw [n_fX0_usedBy]; exact e, hv.cg fun j _ => ?_⟩
  rw [List.drop_zero]
  exact ⟨fun h => h.elim (fun h => h.elim) id, Or.inr⟩
