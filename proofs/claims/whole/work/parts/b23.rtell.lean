/-! ===== the reference's book with what is told ===== -/
theorem Rbk.tellN {σ σ1 : St} {m vm w d vi : Nat} {l : List It} {q : Qv} {ns : List NE} {fs : List FE} {o : Option Nat} (h : Rbk σ m vm ns fs) (ho : o = fix (ns.map (·.1)) w) (hlen : o = none → ns.length < 20) (hw : w < 2147483648) (hP : Pcd m (plp ns o) w d [40] σ σ1) (h40 : Fi σ1 m 40 (nI (if o = none then ns.length + 1 else ns.length))) (hD : Dfn σ m vm d l 0) (hK : Kv σ m vm vi q) :
    Rbk (wA σ1 (m + 20) (plp ns o) (nI vi)) m vm (plR ns o (w, l, q)) fs := by
  obtain ⟨r1, ⟨c18, c19⟩, cne⟩ := hP
  obtain ⟨⟨a1, a2, a3, a4⟩, h2, h3⟩ := h
  have hok : ∀ k, o = some k → k < ns.length := by
    intro k hk
    rw [ho] at hk
    have := fix_lt hk
    rw [List.length_map] at this
    exact this
  have hp20 : plp ns o < 20 := by
    cases o with
    | none => exact hlen rfl
    | some k => have := hok k rfl; show k < 20; omega
  have a20 : sA σ1 (m + 20) = sA σ (m + 20) := r1.ar 20 ⟨by simp, by omega, by omega⟩
  have w : rfM m [] [20] nV σ1 (wA σ1 (m + 20) (plp ns o) (nI vi)) := rfM.wA (by simp) (by omega)
  refine ⟨⟨?_, ?_, fi_wA (a3.keep r1 (by simp)), a4⟩, fun k e he => ?_, fun k e he => ?_⟩
  · rw [plR_len]; exact fi_wA h40
  · rw [plR_len]
    split
    · rename_i c; have := hlen c; omega
    · exact a2
  · rw [plR_get hok] at he
    by_cases c : k = plp ns o
    · rw [if_pos c] at he
      cases he
      subst c
      refine ⟨?_, hw, ⟨d, ?_, (hD.keepM r1 (by simp) (fun _ _ _ q => q)).keepM w (by simp) (fun _ _ _ q => q)⟩, vi, sA_wA_eq, (hK.keepM r1 (fun _ _ _ q => q)).keepM w (fun _ _ _ q => q)⟩
      · rw [sA_wA_b (by omega)]; exact c18
      · rw [sA_wA_b (by omega)]; exact c19
    · rw [if_neg c] at he
      obtain ⟨b1, b2, ⟨d', b3, b4⟩, u, b5, b6⟩ := h2 k e he
      obtain ⟨n1, n2⟩ := cne k c
      refine ⟨?_, b2, ⟨d', ?_, (b4.keepM r1 (by simp) (fun _ _ _ q => q)).keepM w (by simp) (fun _ _ _ q => q)⟩, u, ?_, (b6.keepM r1 (fun _ _ _ q => q)).keepM w (fun _ _ _ q => q)⟩
      · rw [sA_wA_b (by omega), n1]; exact b1
      · rw [sA_wA_b (by omega), n2]; exact b3
      · rw [sA_wA_j c, a20]; exact b5
  · obtain ⟨b1, b2, d', b3, b4⟩ := h3 k e he
    obtain ⟨n1, n2⟩ := cne (20 + k) (by omega)
    refine ⟨?_, b2, d', ?_, (b4.keepM r1 (by simp) (fun _ _ _ q => q)).keepM w (by simp) (fun _ _ _ q => q)⟩
    · rw [sA_wA_b (by omega), n1]; exact b1
    · rw [sA_wA_b (by omega), n2]; exact b3
theorem Rbk.tellF {σ σ1 : St} {m vm w d np : Nat} {v : Int32} {l : List It} {ns : List NE} {fs : List FE} {o : Option Nat} (h : Rbk σ m vm ns fs) (ho : o = fix (fs.map (·.1)) w) (hlen : o = none → fs.length < 10) (hw : w < 2147483648) (hP : Pcd m (20 + plp fs o) w d [41] σ σ1) (h41 : Fi σ1 m 41 (nI (if o = none then fs.length + 1 else fs.length))) (hD : Dfn σ m vm d l np) :
    Rbk (wA σ1 (m + 20) (20 + plp fs o) v) m vm ns (plR fs o (w, np, l)) := by
  obtain ⟨r1, ⟨c18, c19⟩, cne⟩ := hP
  obtain ⟨⟨a1, a2, a3, a4⟩, h2, h3⟩ := h
  have hok : ∀ k, o = some k → k < fs.length := by
    intro k hk
    rw [ho] at hk
    have := fix_lt hk
    rw [List.length_map] at this
    exact this
  have a20 : sA σ1 (m + 20) = sA σ (m + 20) := r1.ar 20 ⟨by simp, by omega, by omega⟩
  have w' : rfM m [] [20] nV σ1 (wA σ1 (m + 20) (20 + plp fs o) v) := rfM.wA (by simp) (by omega)
  refine ⟨⟨fi_wA (a1.keep r1 (by simp)), a2, ?_, ?_⟩, fun k e he => ?_, fun k e he => ?_⟩
  · rw [plR_len]; exact fi_wA h41
  · rw [plR_len]
    split
    · rename_i c; have := hlen c; omega
    · exact a4
  · have hk := (List.getElem?_eq_some_iff.mp he).1
    obtain ⟨b1, b2, ⟨d', b3, b4⟩, u, b5, b6⟩ := h2 k e he
    obtain ⟨n1, n2⟩ := cne k (by omega)
    refine ⟨?_, b2, ⟨d', ?_, (b4.keepM r1 (by simp) (fun _ _ _ q => q)).keepM w' (by simp) (fun _ _ _ q => q)⟩, u, ?_, (b6.keepM r1 (fun _ _ _ q => q)).keepM w' (fun _ _ _ q => q)⟩
    · rw [sA_wA_b (by omega), n1]; exact b1
    · rw [sA_wA_b (by omega), n2]; exact b3
    · rw [sA_wA_j (by omega), a20]; exact b5
  · rw [plR_get hok] at he
    by_cases c : k = plp fs o
    · rw [if_pos c] at he
      cases he
      subst c
      refine ⟨?_, hw, d, ?_, (hD.keepM r1 (by simp) (fun _ _ _ q => q)).keepM w' (by simp) (fun _ _ _ q => q)⟩
      · rw [sA_wA_b (by omega)]; exact c18
      · rw [sA_wA_b (by omega)]; exact c19
    · rw [if_neg c] at he
      obtain ⟨b1, b2, d', b3, b4⟩ := h3 k e he
      obtain ⟨n1, n2⟩ := cne (20 + k) (by omega)
      refine ⟨?_, b2, d', ?_, (b4.keepM r1 (by simp) (fun _ _ _ q => q)).keepM w' (by simp) (fun _ _ _ q => q)⟩
      · rw [sA_wA_b (by omega), n1]; exact b1
      · rw [sA_wA_b (by omega), n2]; exact b3
/-- a row put in its place, in either order -/
theorem plR_mem {α : Type} {f : α → Nat} {l : List α} {w : Nat} {x y : α} (hu : Unq (l.map f)) (hx : f x = w) : y ∈ plR l (fix (l.map f) w) x ↔ y = x ∨ (y ∈ l ∧ f y ≠ w) := by
  cases ho : fix (l.map f) w with
  | none =>
    show y ∈ l ++ [x] ↔ _
    rw [List.mem_append, List.mem_singleton]
    constructor
    · rintro (h | h)
      · refine Or.inr ⟨h, fun q => ?_⟩
        have := List.findIdx?_eq_none_iff.mp ho (f y) (List.mem_map_of_mem h)
        simp [q] at this
      · exact Or.inl h
    · rintro (h | h)
      · exact Or.inr h
      · exact Or.inl h.1
  | some k =>
    have hk := fix_lt ho
    have hg := fix_get ho
    rw [List.length_map] at hk
    show y ∈ l.set k x ↔ _
    constructor
    · intro hy
      obtain ⟨t, ht⟩ := List.getElem?_of_mem hy
      rw [List.getElem?_set] at ht
      by_cases c : k = t
      · subst c
        rw [if_pos rfl, if_pos hk] at ht
        exact Or.inl (Option.some.inj ht).symm
      · rw [if_neg c] at ht
        refine Or.inr ⟨List.mem_of_getElem? ht, fun q => ?_⟩
        refine c (hu k t w hg ?_)
        rw [List.getElem?_map, ht, ← q]
        rfl
    · rintro (rfl | ⟨h1, h2⟩)
      · exact List.mem_of_getElem? (i := k) (by rw [List.getElem?_set, if_pos rfl, if_pos hk])
      · obtain ⟨t, ht⟩ := List.getElem?_of_mem h1
        refine List.mem_of_getElem? (i := t) ?_
        rw [List.getElem?_set, if_neg]
        · exact ht
        · intro q
          subst q
          rw [List.getElem?_map, ht] at hg
          exact h2 (Option.some.inj hg)
