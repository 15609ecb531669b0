/-! ===== pure: the yard's steps ===== -/
/-- a step of the yard, backward: what is known of the end -/
theorem sy_fut {t ps : List Nat} {Lf : List It} : ∀ (n : Nat) (s : Sy), sys t ps n s = .inr (.inr Lf) → Fut s.2.1 s.2.2.1 Lf := by
  intro n
  induction n with
  | zero => intro s h; cases h
  | succ n ih =>
    intro s h
    obtain ⟨Z, S, L, i⟩ := s
    have h9 : (match sy t ps (Z, S, L, i) with
      | .inl s' => sys t ps n s'
      | .inr r => .inr r) = .inr (.inr Lf) := h
    have next : ∀ s', sy t ps (Z, S, L, i) = .inl s' → Fut s'.2.1 s'.2.2.1 Lf := fun s' e => by
      rw [e] at h9
      exact ih s' h9
    have fin : ∀ r, sy t ps (Z, S, L, i) = .inr r → r = .inr Lf := fun r e => by
      rw [e] at h9
      exact Sum.inr.inj h9
    show Fut S L Lf
    cases Z with
    | false =>
      have e : sy t ps (false, S, L, i) = syA t ps S L i := rfl
      rw [e] at next fin
      unfold syA at next fin
      split at next
      · exact (next _ rfl).it
      rename_i c1
      rw [if_neg c1] at fin
      split at next
      · rename_i c2
        rw [if_pos c2] at fin
        split at next
        · rename_i c3
          rw [if_pos c3] at fin
          cases fin _ rfl
        · exact (next _ rfl).w
      rename_i c2
      rw [if_neg c2] at fin
      split at next
      · rename_i c3
        rw [if_pos c3] at fin
        cases fin _ rfl
      rename_i c3
      rw [if_neg c3] at fin
      split at next
      · exact (next _ rfl).it
      rename_i c4
      rw [if_neg c4] at fin
      split at next
      · rename_i c5
        rw [if_pos c5] at fin
        cases fin _ rfl
      · exact (next _ rfl).w
    | true =>
      have e : sy t ps (true, S, L, i) = syB t S L i := rfl
      rw [e] at next fin
      unfold syB at next fin
      split at next
      · exact (next _ rfl).it
      rename_i c1
      rw [if_neg c1] at fin
      split at next
      · rename_i c2
        rw [if_pos c2] at fin
        refine Fut.pop (m := 1) ?_
        generalize stl 1 S L = r at *
        obtain ⟨S', L'⟩ := r
        cases S' with
        | nil => cases fin _ rfl
        | cons w S' =>
          have g := next _ rfl
          have g : Fut S' (L' ++ cli w) Lf := g
          refine ⟨?_, fun u hu => ?_⟩
          · obtain ⟨⟨M, g1⟩, _⟩ := g
            exact ⟨cli w ++ M, by rw [g1, List.append_assoc]⟩
          · rcases List.mem_cons.mp hu with rfl | hu
            · intro _ v hv
              obtain ⟨⟨M, g1⟩, _⟩ := g
              have ec : cli u = [(33, v, u.2.2.2, u.2.1, q0)] := by unfold cli; rw [hv]
              exact ⟨(33, v, u.2.2.2, u.2.1, q0), by rw [g1, ec]; simp, rfl, rfl, Nat.le_refl _⟩
            · exact g.2 u hu
      rename_i c2
      rw [if_neg c2] at fin
      split at next
      · rename_i c3
        rw [if_pos c3] at fin
        split at next
        · rename_i c4
          rw [if_pos c4] at fin
          cases fin _ rfl
        · exact (next _ rfl).w
      rename_i c3
      rw [if_neg c3] at fin
      split at next
      · rename_i c4
        rw [if_pos c4] at fin
        refine Fut.pop (m := 1) ?_
        generalize stl 1 S L = r at *
        obtain ⟨S', L'⟩ := r
        cases S' with
        | nil => cases fin _ rfl
        | cons w S' =>
          have en : syK i (w :: S', L') = if w.2.2.1 = none then .inr (.inl i) else .inl (false, (w.1, w.2.1, w.2.2.1, w.2.2.2 + 1) :: S', L', i + 1) := rfl
          rw [en] at next fin
          split at next
          · rename_i c5
            rw [if_pos c5] at fin
            cases fin _ rfl
          · have g : Fut ((w.1, w.2.1, w.2.2.1, w.2.2.2 + 1) :: S') L' Lf := next _ rfl
            refine ⟨g.1, fun u hu => ?_⟩
            rcases List.mem_cons.mp hu with rfl | hu
            · intro h40 v hv
              obtain ⟨it, i1, i2, i3, i4⟩ := g.2 _ List.mem_cons_self h40 v hv
              have i4 : u.2.2.2 + 1 ≤ it.2.2.1 := i4
              exact ⟨it, i1, i2, i3, by omega⟩
            · exact g.2 u (List.mem_cons_of_mem _ hu)
      rename_i c4
      rw [if_neg c4] at fin
      split at next
      · exact Fut.pop (next _ rfl).w
      rename_i c5
      rw [if_neg c5] at fin
      split at next
      · rename_i c6
        rw [if_pos c6] at fin
        refine Fut.pop (m := 1) ?_
        generalize stl 1 S L = r at *
        obtain ⟨S', L'⟩ := r
        cases S' with
        | nil =>
          have e2 := fin _ rfl
          have e2 : L' = Lf := Sum.inr.inj e2
          exact ⟨⟨[], by rw [e2, List.append_nil]⟩, fun u hu => (by cases hu)⟩
        | cons w S' => cases fin _ rfl
      · rename_i c6
        rw [if_neg c6] at fin
        cases fin _ rfl
theorem Yv.op {p : Nat} {S : List Wt} {L : List It} {w : Wt} (h : Yv p true S L) (hk : (1 ≤ w.1 ∧ w.1 ≤ 6)) (ho : opw w + opn S ≤ 12) (hs : w.1 ≤ 5 → ∀ u ∈ S.head?, u.1 = 40 ∨ rk u.1 < rk w.1) (h1 : w.2.2.2 = 1) : Yv p false (w :: S) L := by
  obtain ⟨g1, g2, g3, g4, g5, g6⟩ := h
  have e : wg1 w = 1 := by unfold wg1; rw [if_neg (by omega), if_neg (by omega)]
  refine ⟨?_, g2, ⟨g3, Or.inr (Or.inl hk), hs, by omega, fun _ _ => h1⟩, by rw [opn_cons]; exact ho, fun u hu => ?_, g6⟩
  · rw [wgt_cons, e, g1]
    show some (wgt S + 1) = some (1 + wgt S + 0)
    congr 1
    omega
  · rcases List.mem_cons.mp hu with rfl | hu
    · intro z; omega
    · exact g5 u hu
theorem Yv.pre {p : Nat} {S : List Wt} {L : List It} {w : Wt} (h : Yv p false S L) (hk : w.1 = 40 ∨ w.1 = 8) (ho : opn S < 12) (h1 : w.2.2.2 = 1) : Yv p false (w :: S) L := by
  obtain ⟨g1, g2, g3, g4, g5, g6⟩ := h
  have e : wg1 w = 0 := by
    unfold wg1
    by_cases c : w.1 = 40
    · rw [if_pos c]; omega
    · rw [if_neg c, if_pos (by omega)]
  have eo : opw w = 1 := if_pos (by omega)
  refine ⟨?_, g2, ⟨g3, by omega, fun z => by omega, by omega, fun _ _ => h1⟩, by rw [opn_cons]; omega, fun u hu => ?_, g6⟩
  · rw [wgt_cons, e, g1, Nat.zero_add]
  · rcases List.mem_cons.mp hu with rfl | hu
    · intro z; omega
    · exact g5 u hu
theorem Yv.val {p : Nat} {S : List Wt} {L : List It} {it : It} (h : Yv p false S L) (ha : ari it = 0) (hi : ikd p it) : Yv p true S (L ++ [it]) := by
  obtain ⟨g1, g2, g3, g4, g5, g6⟩ := h
  have hb := Shp.bd g3 g5 g4
  have g1 : hts L 0 = some (wgt S + 0) := g1
  obtain ⟨k1, k2⟩ := hts_1 (it := it) (k' := wgt S + 1) g1 g2 (by omega) (by omega) (by omega)
  exact ⟨k1, k2, g3, g4, g5, mem_one g6 hi⟩
theorem fix_b {W : List Nat} {w k : Nat} (h : fix W w = some k) : k < W.length := fix_lt h
theorem syA_yv {t ps : List Nat} {S S' : List Wt} {L L' : List It} {i i' : Nat} {Z' : Bool} (hps : ps.length ≤ 4) (h : Yv ps.length false S L) (e : syA t ps S L i = .inl (Z', S', L', i')) : Yv ps.length Z' S' L' := by
  unfold syA at e
  split at e
  · cases e
    refine h.val ?_ (Or.inr (Or.inl rfl))
    unfold ari
    rw [if_pos (Or.inl rfl)]
  split at e
  · split at e
    · cases e
    · rename_i c2 c3
      cases e
      refine h.pre ?_ (by have := h.2.2.2.1; omega) rfl
      show (if (tk t i).1 = 45 then 8 else 40) = 40 ∨ (if (tk t i).1 = 45 then 8 else 40) = 8
      split
      · exact Or.inr rfl
      · exact Or.inl rfl
  split at e
  · cases e
  split at e
  · cases e
    refine h.val ?_ ?_
    · unfold wdi ari
      split
      · rw [if_pos (Or.inr (Or.inl rfl))]
      · rw [if_pos (Or.inr (Or.inr rfl))]
    · unfold wdi
      split
      · exact Or.inr (Or.inr (Or.inl rfl))
      · rename_i j hj
        exact Or.inr (Or.inr (Or.inr (Or.inl ⟨rfl, fix_lt hj⟩)))
  split at e
  · cases e
  · rename_i c5
    cases e
    exact h.pre (Or.inl rfl) (by have := h.2.2.2.1; omega) rfl
theorem sgo_bd (b : Nat) : sgo b ≤ 5 := by
  unfold sgo
  repeat' split
  all_goals omega
theorem syB_yv {t : List Nat} {p : Nat} {S S' : List Wt} {L L' Lf : List It} {i i' : Nat} {Z' : Bool} (hC : ∀ it ∈ Lf, it.1 = 33 → ari it = it.2.2.1 ∧ it.2.2.1 ≤ 4) (hF : Fut S' L' Lf) (h : Yv p true S L) (e : syB t S L i = .inl (Z', S', L', i')) : Yv p Z' S' L' := by
  unfold syB at e
  split at e
  · cases e
    obtain ⟨g1, g2, g3, g4, g5, g6⟩ := h
    have hb := Shp.bd g3 g5 g4
    have ha : ari (7, 0, 0, (tk t i).2.2.1, q0) = 1 := by
      rw [stp_low (show (7 : Nat) ≤ 8 by omega)]
      exact ar_neg (by unfold two; omega)
    obtain ⟨k1, k2⟩ := hts_1 (k' := wgt S + 1) g1 g2 (by rw [ha]; show 1 ≤ wgt S + 1; omega) (by rw [ha]; show _ = wgt S + 1 - 1 + 1; omega) (by omega)
    exact ⟨k1, k2, g3, g4, g5, mem_one g6 (Or.inl ⟨by show 1 ≤ 7; omega, by show 7 ≤ 8; omega⟩)⟩
  split at e
  · obtain ⟨hY, hst, _⟩ := h.pop (m := 1)
    generalize stl 1 S L = r at *
    obtain ⟨S1, L1⟩ := r
    cases S1 with
    | nil => cases e
    | cons w S1 =>
      have e : (.inl (true, S1, L1 ++ cli w, i + 1) : Se) = .inl (Z', S', L', i') := e
      obtain ⟨e1, e2, e3, e4⟩ : true = Z' ∧ S1 = S' ∧ L1 ++ cli w = L' ∧ i + 1 = i' := by cases e; exact ⟨rfl, rfl, rfl, rfl⟩
      subst e1
      subst e2
      subst e3
      subst e4
      obtain ⟨g1, g2, g3, g4, g5, g6⟩ := hY
      have g1 : hts L1 0 = some (wgt (w :: S1) + 1) := g1
      rw [wgt_cons] at g1
      rw [opn_cons] at g4
      have hb := Shp.bd g3.1 (fun u hu => g5 u (List.mem_cons_of_mem _ hu)) (by omega)
      by_cases h40 : w.1 = 40
      · have ew : wg1 w = w.2.2.2 - 1 := if_pos h40
        have hn1 := g3.2.2.2.1
        cases hv : w.2.2.1 with
        | none =>
          have ec : cli w = [] := by unfold cli; rw [hv]
          have h1 := g3.2.2.2.2 hv h40
          rw [ec, List.append_nil]
          refine ⟨?_, g2, g3.1, by omega, fun u hu => g5 u (List.mem_cons_of_mem _ hu), g6⟩
          rw [g1, ew, h1]
          show some (1 - 1 + wgt S1 + 1) = some (wgt S1 + 1)
          congr 1
          omega
        | some v =>
          have ec : cli w = [(33, v, w.2.2.2, w.2.1, q0)] := by unfold cli; rw [hv]
          obtain ⟨M, hM⟩ := hF.1
          obtain ⟨ha, hb4⟩ := hC (33, v, w.2.2.2, w.2.1, q0) (by rw [hM, ec]; simp) rfl
          have ha : ari (33, v, w.2.2.2, w.2.1, q0) = w.2.2.2 := ha
          rw [ec]
          obtain ⟨k1, k2⟩ := hts_1 (it := (33, v, w.2.2.2, w.2.1, q0)) (k' := wgt S1 + 1) g1 g2 (by omega) (by omega) (by omega)
          exact ⟨k1, k2, g3.1, by omega, fun u hu => g5 u (List.mem_cons_of_mem _ hu), mem_one g6 (Or.inr (Or.inr (Or.inr (Or.inr rfl))))⟩
      · exfalso
        have := hst w rfl
        have := rk_bd w.1
        omega
  split at e
  · split at e
    · cases e
    · rename_i c4
      cases e
      have ho := h.2.2.2.1
      refine h.op ⟨by show 1 ≤ 6; omega, by show 6 ≤ 6; omega⟩ ?_ (fun z => absurd z (by show ¬ 6 ≤ 5; omega)) rfl
      have : opw (6, (tk t i).2.2.1, none, 1) = 1 := if_pos (Or.inr (Or.inl rfl))
      omega
  split at e
  · obtain ⟨hY, hst, _⟩ := h.pop (m := 1)
    generalize stl 1 S L = r at *
    obtain ⟨S1, L1⟩ := r
    cases S1 with
    | nil => cases e
    | cons w S1 =>
      have en : syK i (w :: S1, L1) = if w.2.2.1 = none then .inr (.inl i) else .inl (false, (w.1, w.2.1, w.2.2.1, w.2.2.2 + 1) :: S1, L1, i + 1) := rfl
      rw [en] at e
      split at e
      · cases e
      · rename_i hnn
        obtain ⟨e1, e2, e3, e4⟩ : false = Z' ∧ (w.1, w.2.1, w.2.2.1, w.2.2.2 + 1) :: S1 = S' ∧ L1 = L' ∧ i + 1 = i' := by cases e; exact ⟨rfl, rfl, rfl, rfl⟩
        subst e1
        subst e2
        subst e3
        subst e4
        obtain ⟨g1, g2, g3, g4, g5, g6⟩ := hY
        have h40 : w.1 = 40 := by
          have := hst w rfl
          have := rk_bd w.1
          omega
        have g1 : hts L1 0 = some (wgt (w :: S1) + 1) := g1
        rw [wgt_cons] at g1
        have ew : wg1 w = w.2.2.2 - 1 := if_pos h40
        have ew2 : wg1 (w.1, w.2.1, w.2.2.1, w.2.2.2 + 1) = w.2.2.2 := if_pos h40
        have hn1 := g3.2.2.2.1
        refine ⟨?_, g2, ⟨g3.1, g3.2.1, g3.2.2.1, by show 1 ≤ w.2.2.2 + 1; omega, fun z => absurd z hnn⟩, g4, fun u hu => ?_, g6⟩
        · rw [g1, wgt_cons, ew2, ew]
          show some (w.2.2.2 - 1 + wgt S1 + 1) = some (w.2.2.2 + wgt S1 + 0)
          congr 1
          omega
        · rcases List.mem_cons.mp hu with rfl | hu
          · intro _
            cases hv : w.2.2.1 with
            | none => exact absurd hv hnn
            | some v =>
              obtain ⟨it, i1, i2, i3, i4⟩ := hF.2 _ List.mem_cons_self h40 v hv
              have i4 : w.2.2.2 + 1 ≤ it.2.2.1 := i4
              have := (hC it i1 i2).2
              show w.2.2.2 + 1 ≤ 4
              omega
          · exact g5 u (List.mem_cons_of_mem _ hu)
  split at e
  · rename_i c5
    obtain ⟨hY, hst, hop⟩ := h.pop (m := rk (sgo (tk t i).1))
    cases e
    have hb := sgo_bd (tk t i).1
    have ho := h.2.2.2.1
    refine hY.op ⟨c5, by show sgo (tk t i).1 ≤ 6; omega⟩ ?_ (fun _ => hst) rfl
    have : opw (sgo (tk t i).1, (tk t i).2.2.1, none, 1) = 0 := if_neg (by show ¬ (sgo (tk t i).1 = 8 ∨ sgo (tk t i).1 = 6 ∨ sgo (tk t i).1 = 40); omega)
    omega
  split at e
  · generalize stl 1 S L = r at *
    obtain ⟨S1, L1⟩ := r
    cases S1 with
    | nil => cases e
    | cons w S1 => cases e
  · cases e
/-- a line that is read: one value at its end, and never many -/
theorem sy_end {t ps : List Nat} {Lf : List It} (hps : ps.length ≤ 4) (hC : ∀ it ∈ Lf, it.1 = 33 → ari it = it.2.2.1 ∧ it.2.2.1 ≤ 4) : ∀ (n : Nat) (s : Sy), sys t ps n s = .inr (.inr Lf) → Yv ps.length s.1 s.2.1 s.2.2.1 → hts Lf 0 = some 1 ∧ hmx Lf 0 ≤ 63 ∧ ∀ it ∈ Lf, ikd ps.length it := by
  intro n
  induction n with
  | zero => intro s h; cases h
  | succ n ih =>
    intro s h hY
    obtain ⟨Z, S, L, i⟩ := s
    have h9 : (match sy t ps (Z, S, L, i) with
      | .inl s' => sys t ps n s'
      | .inr r => .inr r) = .inr (.inr Lf) := h
    cases hs : sy t ps (Z, S, L, i) with
    | inl s' =>
      rw [hs] at h9
      have hF := sy_fut n s' h9
      refine ih s' h9 ?_
      obtain ⟨Z', S', L', i'⟩ := s'
      cases Z with
      | false => exact syA_yv hps hY hs
      | true => exact syB_yv hC hF hY hs
    | inr r =>
      rw [hs] at h9
      have hr : r = .inr Lf := Sum.inr.inj h9
      subst hr
      cases Z with
      | false =>
        exfalso
        have e : syA t ps S L i = .inr (.inr Lf) := hs
        unfold syA at e
        repeat' (first | (cases e; done) | split at e)
      | true =>
        have e : syB t S L i = .inr (.inr Lf) := hs
        obtain ⟨hY1, _, _⟩ := Yv.pop (m := 1) hY
        unfold syB at e
        split at e
        · cases e
        split at e
        · unfold syC at e
          split at e <;> cases e
        split at e
        · split at e <;> cases e
        split at e
        · unfold syK at e
          split at e
          · cases e
          · split at e <;> cases e
        split at e
        · cases e
        split at e
        · generalize stl 1 S L = r at *
          obtain ⟨S1, L1⟩ := r
          cases S1 with
          | nil =>
            have e : (.inr (.inr L1) : Se) = .inr (.inr Lf) := e
            cases e
            exact ⟨hY1.1, hY1.2.1, hY1.2.2.2.2.2⟩
          | cons w S1 => cases e
        · cases e
theorem rdd_end {t : List Nat} {Lf : List It} (h : Rdd t (.inr Lf)) (hC : ∀ it ∈ Lf, it.1 = 33 → ari it = it.2.2.1 ∧ it.2.2.1 ≤ 4) : ∃ p, p ≤ 4 ∧ hts Lf 0 = some 1 ∧ hmx Lf 0 ≤ 63 ∧ (∀ it ∈ Lf, ikd p it) ∧ ∃ i ps, hdf t = .inr (i, ps) ∧ ps.length = p := by
  unfold Rdd at h
  cases hh : hdf t with
  | inl i => rw [hh] at h; cases h
  | inr q =>
    rw [hh] at h
    obtain ⟨i, ps⟩ := q
    obtain ⟨n, hn⟩ := h
    have hp : ps.length ≤ 4 := by
      have key : ∀ (k i : Nat) (ps : List Nat) (j : Nat) (qs : List Nat), hdp t k i ps = .inr (j, qs) → qs.length ≤ 4 := by
        intro k
        induction k with
        | zero => intro i ps j qs h; cases h
        | succ k ih =>
          intro i ps j qs h
          have e : hdp t (k + 1) i ps = if 4 ≤ ps.length ∨ fix ps (tk t i).2.1 ≠ none then .inl i else if (tk t (i + 1)).1 = 41 then .inr (i + 3, ps ++ [(tk t i).2.1]) else hdp t k (i + 2) (ps ++ [(tk t i).2.1]) := rfl
          rw [e] at h
          split at h
          · cases h
          rename_i c
          split at h
          · cases h
            rw [List.length_append, List.length_singleton]
            omega
          · exact ih _ _ _ _ h
      unfold hdf at hh
      split at hh
      · cases hh; exact Nat.zero_le _
      split at hh
      · cases hh; exact Nat.zero_le _
      · exact key _ _ _ _ _ hh
    obtain ⟨h1, h2, h3⟩ := sy_end hp hC n _ hn ⟨rfl, Nat.zero_le _, trivial, Nat.zero_le _, fun w hw => (by cases hw), fun it hit => (by cases hit)⟩
    exact ⟨ps.length, hp, h1, h2, h3, i, ps, rfl, rfl⟩
