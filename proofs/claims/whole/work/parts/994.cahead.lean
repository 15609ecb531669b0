/-! ===== the class' line refused ahead ===== -/
theorem pick_nn {T : List Th} {l : List It} {e : Th} (h : pick T l e = none) : ∀ y ∈ T, ¬ cnd T l e y := by
  intro y hy hc
  unfold pick at h
  rw [List.find?_eq_none] at h
  exact h y hy (@decide_eq_true _ (Classical.propDecidable _) hc)
theorem pick_rch {T : List Th} {l : List It} {e : Th} : pick T l e ≠ none ↔ Rch T l e := by
  constructor
  · intro h
    cases hp : pick T l e with
    | none => exact absurd hp h
    | some y =>
      obtain ⟨h1, h2, h3⟩ := pick_some hp
      rcases h3 with rfl | h3
      · exact Rch.one ⟨h1, h2⟩
      · exact Rch.cons ⟨h1, h2⟩ h3
  · rintro ⟨n, h⟩ hp
    cases n with
    | zero => exact pick_nn hp e h.1 ⟨h.2, Or.inl rfl⟩
    | succ n =>
      obtain ⟨y, h1, h2⟩ := h
      exact pick_nn hp y h1.1 ⟨h1.2, Or.inr ⟨n, h2⟩⟩
/-- the node of what is told -/
def ndO (ns : List NE) (fs : List FE) (form w : Nat) : Option Nat := if form = 2 then (fix (fs.map (·.1)) w).map (ns.length + ·) else fix (ns.map (·.1)) w
theorem ndO_th {ns : List NE} {fs : List FE} {form w : Nat} : (ndO ns fs form w).bind (fun j => (Ths ns fs)[j]?) = thO ns fs form w ∧ ∀ j, ndO ns fs form w = some j → ∃ e, (Ths ns fs)[j]? = some e ∧ thO ns fs form w = some e := by
  have key : ∀ j, ndO ns fs form w = some j → ∃ e, (Ths ns fs)[j]? = some e ∧ thO ns fs form w = some e := by
    intro j hj
    unfold ndO at hj
    unfold thO
    by_cases c : form = 2
    · rw [if_pos c] at hj ⊢
      cases hf : fix (fs.map (·.1)) w with
      | none => rw [hf] at hj; cases hj
      | some k =>
        rw [hf] at hj
        have hj9 : ns.length + k = j := Option.some.inj hj
        subst hj9
        have hg := fix_get hf
        rw [List.getElem?_map] at hg
        cases hx : fs[k]? with
        | none => rw [hx] at hg; cases hg
        | some y =>
          refine ⟨(1, y.1, y.2.2), ?_, ?_⟩
          · rw [Ths_get, if_neg (by omega), Nat.add_sub_cancel_left, hx]; rfl
          · unfold thF
            rw [hf]
            show (fs[k]?.map _) = _
            rw [hx]
            rfl
    · rw [if_neg c] at hj ⊢
      have hg := fix_get hj
      rw [List.getElem?_map] at hg
      cases hx : ns[j]? with
      | none => rw [hx] at hg; cases hg
      | some y =>
        have hl := (List.getElem?_eq_some_iff.mp hx).1
        refine ⟨(0, y.1, y.2.1), ?_, ?_⟩
        · rw [Ths_get, if_pos hl, hx]; rfl
        · unfold thN
          rw [hj]
          show (ns[j]?.map _) = _
          rw [hx]
          rfl
  refine ⟨?_, key⟩
  cases hj : ndO ns fs form w with
  | some j =>
    obtain ⟨e, h1, h2⟩ := key j hj
    rw [h2]
    exact h1
  | none =>
    unfold ndO at hj
    unfold thO
    by_cases c : form = 2
    · rw [if_pos c] at hj ⊢
      cases hf : fix (fs.map (·.1)) w with
      | none => rw [thF_none hf]; rfl
      | some k => rw [hf] at hj; cases hj
    · rw [if_neg c] at hj ⊢
      rw [thN_none hj]
      rfl
theorem ndO_b {ns : List NE} {fs : List FE} {form w j : Nat} (h : ndO ns fs form w = some j) : j < (Ths ns fs).length := by
  obtain ⟨e, h1, _⟩ := (ndO_th (ns := ns) (fs := fs) (form := form) (w := w)).2 j h
  exact (List.getElem?_eq_some_iff.mp h1).1
theorem cx_node {σ : St} {x b na fa w form : Nat} {ns : List NE} {fs : List FE} (hB : KBk σ x b na fa ns fs) (hw : w < 2147483648) : fX0_find σ b (nI w) (if form = 2 then nI 1 else nI 0) = some (σ, iz (thn (ndO ns fs form w) 0)) := by
  unfold ndO
  by_cases c : form = 2
  · rw [if_pos c, if_pos c, cb_findF hB hw]
    cases fix (fs.map (·.1)) w with
    | none => rfl
    | some k => show some (σ, iz ((ns.length + k : Nat) : Int)) = some (σ, iz ((0 + (ns.length + k) : Nat) : Int)); rw [Nat.zero_add]
  · rw [if_neg c, if_neg c, cb_findN hB hw]
/-- no thing leads to itself -/
def Acy (T : List Th) : Prop := ∀ e ∈ T, ¬ Rch T e.2.2 e
theorem cx_isTaken {σ : St} {x b na fa form w wp np : Nat} {l : List It} {ns : List NE} {fs : List FE} (hx : XS σ x) (hB : KBk σ x b na fa ns fs) (hU : KUs σ x b (Ths ns fs)) (hL : Ln σ x form w wp np l) (hKW : KWs σ x) (hac : Acy (Ths ns fs)) :
    fX11_isTaken σ x b (iz (thn (ndO ns fs form w) 0)) = some (σ, nI (b01 (tkn ns fs (Ths ns fs) form w np))) := by
  have hln := hB.1.2.2
  have hTl := Ths_len ns fs
  obtain ⟨l1, l2, l3, l4, l5, l6⟩ := hL.f hx
  have hkb := known_b w
  obtain ⟨⟨_, q1⟩, ⟨_, q2⟩, ⟨_, q3⟩, ⟨_, q4⟩, q5⟩ := id hL
  apply hx_eq
  rw [n_fX11_isTaken, l1]
  refine hx_bs ?_
  rw [l3]
  refine hx_bs ?_
  rw [cx_stepOf hKW (by omega)]
  refine hx_cs (Hx.ce (sm_eq (by omega) (by omega)) (fun c1 => ?_) (fun c1 => ?_))
  · refine Hx.ce (thn_m1 (fun k hk => by have := ndO_b hk; omega)) (fun c2 => ?_) (fun c2 => ?_)
    · rw [b01_n]
      · exact Hx.ret ⟨rfl, rfl⟩
      · rintro (h | ⟨h, q, e, h1, h2, h3, h4⟩)
        · omega
        · have := (ndO_th (ns := ns) (fs := fs) (form := form) (w := w)).1
          rw [c2] at this
          unfold thO at this
          rw [if_pos h, h2] at this
          cases this
    · rw [l1]
      refine hx_bs ?_
      rw [l2]
      refine hx_bs (Hx.ce (sm_eq (by omega) (by omega)) (fun c3 => ?_) (fun c3 => ?_))
      · cases hj : ndO ns fs form w with
        | none => exact absurd hj c2
        | some j =>
          have hjl := ndO_b hj
          obtain ⟨e, he, hth⟩ := (ndO_th (ns := ns) (fs := fs) (form := form) (w := w)).2 j hj
          have hj3 := hj
          unfold ndO at hj3
          rw [if_pos c3] at hj3
          cases hf : fix (fs.map (·.1)) w with
          | none => rw [hf] at hj3; cases hj3
          | some k =>
            rw [hf] at hj3
            have hj9 : ns.length + k = j := Option.some.inj hj3
            subst hj9
            have hg := fix_get hf
            rw [List.getElem?_map] at hg
            cases hy : fs[k]? with
            | none => rw [hy] at hg; cases hg
            | some y =>
              have hfn : fnp fs w = some y.2.1 := by
                unfold fnp
                rw [hf]
                show (fs[k]?.map _) = _
                rw [hy]
                rfl
              have hnp := (hB.2.2.2.2 k y hy).1.2.2.1.2
              rw [thn_nI, Nat.zero_add, sm_ckK hB.1.2.1]
              refine hx_bs ?_
              rw [cb_isUsed hU hB.1.2.1 (by omega) (by omega)]
              have hus : (∃ (i : Nat) (e' : Th), (Ths ns fs)[i]? = some e' ∧ rS (Ths ns fs) e'.2.2 (ns.length + k)) ↔ usT (Ths ns fs) e := by
                constructor
                · rintro ⟨i, e', h1, e2, h2, h3⟩
                  rw [he] at h2
                  cases h2
                  have hm := List.mem_of_getElem? h1
                  exact ⟨e', hm, fun h => by rw [h] at h3 hm; exact hac e hm h3, h3⟩
                · rintro ⟨e', h1, h2, h3⟩
                  obtain ⟨i, hi⟩ := List.getElem?_of_mem h1
                  exact ⟨i, e', hi, e, he, h3⟩
              unfold thO at hth
              rw [if_pos c3] at hth
              refine hx_cs (Hx.ce b01_0 (fun c4 => ?_) (fun c4 => ?_))
              · rw [b01_n]
                · exact Hx.ret ⟨rfl, rfl⟩
                · rintro (h | ⟨h, q, e3, h1, h2, h3, h4⟩)
                  · omega
                  · rw [hth] at h2
                    cases h2
                    exact c4 (hus.mpr h4)
              · rw [sm_ckK hB.1.2.1]
                refine hx_bs ?_
                rw [cb_parametersOf hB hy]
                refine hx_cs ?_
                rw [l1]
                refine hx_bs ?_
                rw [l5]
                refine hx_bs (Hx.ce (sm_eq (by omega) (by omega)) (fun c5 => ?_) (fun c5 => ?_))
                · rw [b01_n]
                  · exact Hx.ret ⟨rfl, rfl⟩
                  · rintro (h | ⟨h, q, e3, h1, h2, h3, h4⟩)
                    · omega
                    · rw [hfn] at h1
                      cases h1
                      exact h3 c5
                · rw [b01_p]
                  · exact Hx.ret ⟨rfl, rfl⟩
                  · exact Or.inr ⟨c3, _, e, hfn, hth, c5, hus.mp (Classical.not_not.mp c4)⟩
      · rw [b01_n]
        · exact Hx.ret ⟨rfl, rfl⟩
        · rintro (h | ⟨h, _⟩)
          · omega
          · exact c3 h
  · rw [b01_p (p := tkn ns fs (Ths ns fs) form w np) (Or.inl (by omega))]
    exact Hx.ret ⟨rfl, rfl⟩
theorem cx_isFull {σ : St} {x b na fa form w wp np : Nat} {l : List It} {ns : List NE} {fs : List FE} (hx : XS σ x) (hB : KBk σ x b na fa ns fs) (hL : Ln σ x form w wp np l) (h0 : form ≠ 0) :
    fX11_isFull σ x b = some (σ, nI (b01 ((form = 1 ∧ ns.length = 20) ∨ (form ≠ 1 ∧ fs.length = 10)))) := by
  have hln := hB.1.2.2
  obtain ⟨l1, l2, l3, l4, l5, l6⟩ := hL.f hx
  obtain ⟨f1, f2, a1, a2, c5⟩ := ob_f hB
  have q1 := hL.1.2
  apply hx_eq
  rw [n_fX11_isFull, l1]
  refine hx_bs ?_
  rw [l2]
  refine hx_bs (Hx.ce (sm_eq (by omega) (by omega)) (fun c1 => ?_) (fun c1 => ?_))
  · rw [f2]
    refine hx_bs ?_
    rw [a2]
    refine hx_bs (Hx.ce (sm_lt (by omega) (by omega)) (fun c2 => ?_) (fun c2 => ?_))
    · rw [b01_n (by rintro (h | h) <;> omega)]
      exact Hx.ret ⟨rfl, rfl⟩
    · rw [b01_p (Or.inr ⟨by omega, by omega⟩)]
      exact Hx.ret ⟨rfl, rfl⟩
  · rw [f1]
    refine hx_bs ?_
    rw [a1]
    refine hx_bs (Hx.ce (sm_lt (by omega) (by omega)) (fun c2 => ?_) (fun c2 => ?_))
    · rw [b01_n (by rintro (h | h) <;> omega)]
      exact Hx.ret ⟨rfl, rfl⟩
    · rw [b01_p (Or.inl ⟨by omega, by omega⟩)]
      exact Hx.ret ⟨rfl, rfl⟩
