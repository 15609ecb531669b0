/-! ===== pure: how high the stack comes by a line that was read ===== -/
/-- the greatest height on the way -/
noncomputable def hmx : List It → Nat → Nat
  | [], h => h
  | it :: r, h => if hmx r (h - ari it + 1) ≤ h then h else hmx r (h - ari it + 1)
theorem hmx_ge : ∀ (l : List It) (h : Nat), h ≤ hmx l h
  | [], _ => Nat.le_refl _
  | it :: r, h => by
    show h ≤ if hmx r (h - ari it + 1) ≤ h then h else hmx r (h - ari it + 1)
    split <;> omega
theorem hmx_tl {it : It} {r : List It} {h B : Nat} (hb : hmx (it :: r) h ≤ B) : hmx r (h - ari it + 1) ≤ B := by
  have e : hmx (it :: r) h = if hmx r (h - ari it + 1) ≤ h then h else hmx r (h - ari it + 1) := rfl
  rw [e] at hb
  split at hb <;> omega
theorem hts_app : ∀ (L M : List It) (h : Nat), hts (L ++ M) h = (hts L h).bind (hts M)
  | [], _, _ => rfl
  | it :: L, M, h => by
    show (if h < ari it then none else hts (L ++ M) (h - ari it + 1)) = (if h < ari it then none else hts L (h - ari it + 1)).bind (hts M)
    split
    · rfl
    · exact hts_app L M _
theorem hmx_app {B : Nat} : ∀ (L M : List It) (h k : Nat), hts L h = some k → hmx L h ≤ B → hmx M k ≤ B → hmx (L ++ M) h ≤ B
  | [], M, h, k, h1, h2, h3 => by
    have e : h = k := Option.some.inj h1
    rw [e]
    exact h3
  | it :: L, M, h, k, h1, h2, h3 => by
    have e1 : hts (it :: L) h = if h < ari it then none else hts L (h - ari it + 1) := rfl
    rw [e1] at h1
    have q := hmx_tl h2
    have q2 := hmx_ge (it :: L) h
    have e2 : hmx (it :: L ++ M) h = if hmx (L ++ M) (h - ari it + 1) ≤ h then h else hmx (L ++ M) (h - ari it + 1) := rfl
    rw [e2]
    by_cases c : h < ari it
    · rw [if_pos c] at h1; cases h1
    · rw [if_neg c] at h1
      have := hmx_app L M _ k h1 q h3
      split <;> omega
theorem hmx_1 {it : It} {k : Nat} {B : Nat} (h1 : k ≤ B) (h2 : k - ari it + 1 ≤ B) : hmx [it] k ≤ B := by
  have e : hmx [it] k = if k - ari it + 1 ≤ k then k else k - ari it + 1 := rfl
  rw [e]
  split <;> omega
/-- one item more -/
theorem hts_1 {L : List It} {it : It} {k k' B : Nat} (h1 : hts L 0 = some k) (h2 : hmx L 0 ≤ B) (ha : ari it ≤ k) (hk : k' = k - ari it + 1) (hB : k' ≤ B) : hts (L ++ [it]) 0 = some k' ∧ hmx (L ++ [it]) 0 ≤ B := by
  have hkB : k ≤ B := by
    have key : ∀ (L : List It) (h k : Nat), hts L h = some k → hmx L h ≤ B → k ≤ B := by
      intro L
      induction L with
      | nil => intro h k q1 q2; have e : h = k := Option.some.inj q1; rw [← e]; exact q2
      | cons it L ih =>
        intro h k q1 q2
        have e1 : hts (it :: L) h = if h < ari it then none else hts L (h - ari it + 1) := rfl
        rw [e1] at q1
        split at q1
        · cases q1
        · exact ih _ _ q1 (hmx_tl q2)
    exact key L 0 k h1 h2
  refine ⟨?_, hmx_app L [it] 0 k h1 h2 (hmx_1 hkB (by omega))⟩
  rw [hts_app, h1]
  show (if k < ari it then none else some (k - ari it + 1)) = some k'
  rw [if_neg (by omega), hk]
/-- what items there are -/
def ikd (p : Nat) (it : It) : Prop := (1 ≤ it.1 ∧ it.1 ≤ 8) ∨ it.1 = 30 ∨ it.1 = 31 ∨ (it.1 = 32 ∧ it.2.1 < p) ∨ it.1 = 33
/-- how many values one that waits holds -/
def wg1 (w : Wt) : Nat := if w.1 = 40 then w.2.2.2 - 1 else if w.1 = 8 then 0 else 1
def wgt (S : List Wt) : Nat := (S.map wg1).sum
theorem wgt_cons (w : Wt) (S : List Wt) : wgt (w :: S) = wg1 w + wgt S := by
  unfold wgt
  rw [List.map_cons, List.sum_cons]
/-- the ranks rise between two brackets -/
def Shp : List Wt → Prop
  | [] => True
  | w :: S => Shp S ∧ (w.1 = 40 ∨ (1 ≤ w.1 ∧ w.1 ≤ 6) ∨ w.1 = 8) ∧ (w.1 ≤ 5 → ∀ u ∈ S.head?, u.1 = 40 ∨ rk u.1 < rk w.1) ∧ 1 ≤ w.2.2.2 ∧ (w.2.2.1 = none → w.1 = 40 → w.2.2.2 = 1)
def lwc (S : List Wt) : Nat := (S.map fun w => if w.1 ≤ 5 then 1 else 0).sum
theorem lwc_cons (w : Wt) (S : List Wt) : lwc (w :: S) = (if w.1 ≤ 5 then 1 else 0) + lwc S := by
  unfold lwc
  rw [List.map_cons, List.sum_cons]
def tpr : List Wt → Nat
  | [] => 0
  | w :: _ => if w.1 ≤ 5 then rk w.1 else 0
theorem rk_bd (n : Nat) : 1 ≤ rk n ∧ rk n ≤ 3 ∧ (n ≤ 5 → rk n ≤ 2) ∧ (rk n = 1 → n ≤ 2) ∧ (5 < n → rk n = 3) := by
  unfold rk
  repeat' split
  all_goals omega
theorem Shp.low : ∀ {S : List Wt}, Shp S → lwc S ≤ 2 * opn S + tpr S
  | [], _ => Nat.zero_le _
  | w :: S, h => by
    obtain ⟨h1, h2, h3, _⟩ := h
    have ih := Shp.low h1
    rw [lwc_cons, opn_cons]
    have hw := rk_bd w.1
    have ht : tpr (w :: S) = if w.1 ≤ 5 then rk w.1 else 0 := rfl
    rw [ht]
    by_cases c : w.1 ≤ 5
    · rw [if_pos c, if_pos c]
      cases S with
      | nil =>
        have e1 : lwc [] = 0 := rfl
        have e2 : opn [] = 0 := rfl
        omega
      | cons u S =>
        have hu := rk_bd u.1
        have ht2 : tpr (u :: S) = if u.1 ≤ 5 then rk u.1 else 0 := rfl
        rw [ht2] at ih
        rcases h3 c u rfl with q | q
        · rw [if_neg (by omega)] at ih
          omega
        · split at ih <;> omega
    · rw [if_neg c, if_neg c]
      have e : opw w = 1 := if_pos (by omega)
      have : tpr S ≤ 2 := by
        cases S with
        | nil => exact Nat.zero_le _
        | cons u S =>
          have hu := rk_bd u.1
          show (if u.1 ≤ 5 then rk u.1 else 0) ≤ 2
          split <;> omega
      omega
theorem Shp.wle : ∀ {S : List Wt}, Shp S → (∀ w ∈ S, w.1 = 40 → w.2.2.2 ≤ 4) → wgt S ≤ 3 * opn S + lwc S
  | [], _, _ => Nat.zero_le _
  | w :: S, h, h4 => by
    obtain ⟨h1, h2, _⟩ := h
    have ih := Shp.wle h1 (fun u hu => h4 u (List.mem_cons_of_mem _ hu))
    have q4 := h4 w List.mem_cons_self
    rw [lwc_cons, opn_cons, wgt_cons]
    by_cases c : w.1 = 40
    · have e1 : wg1 w = w.2.2.2 - 1 := if_pos c
      have e2 : opw w = 1 := if_pos (Or.inr (Or.inr c))
      have := q4 c
      omega
    · by_cases c8 : w.1 = 8
      · have e1 : wg1 w = 0 := by unfold wg1; rw [if_neg c, if_pos c8]
        have e2 : opw w = 1 := if_pos (Or.inl c8)
        omega
      · have e1 : wg1 w = 1 := by unfold wg1; rw [if_neg c, if_neg c8]
        by_cases c6 : w.1 = 6
        · have e2 : opw w = 1 := if_pos (Or.inr (Or.inl c6))
          omega
        · have e3 : (if w.1 ≤ 5 then 1 else 0) = 1 := if_pos (by omega)
          omega
theorem Shp.bd {S : List Wt} (h : Shp S) (h4 : ∀ w ∈ S, w.1 = 40 → w.2.2.2 ≤ 4) (ho : opn S ≤ 12) : wgt S ≤ 62 := by
  have h1 := h.low
  have h2 := h.wle h4
  have : tpr S ≤ 2 := by
    cases S with
    | nil => exact Nat.zero_le _
    | cons u S =>
      have hu := rk_bd u.1
      show (if u.1 ≤ 5 then rk u.1 else 0) ≤ 2
      split <;> omega
  omega
/-- the yard on its way to a line that is read -/
def Yv (p : Nat) (Z : Bool) (S : List Wt) (L : List It) : Prop := hts L 0 = some (wgt S + if Z then 1 else 0) ∧ hmx L 0 ≤ 63 ∧ Shp S ∧ opn S ≤ 12 ∧ (∀ w ∈ S, w.1 = 40 → w.2.2.2 ≤ 4) ∧ ∀ it ∈ L, ikd p it
theorem stp_low {it : It} (h : it.1 ≤ 8) : ari it = arity it.1 := by
  unfold ari
  rw [if_neg (by omega), if_neg (by omega)]
  unfold stp
  rw [if_neg (by omega)]
theorem Yv.pop {p m : Nat} : ∀ {S : List Wt} {L : List It}, Yv p true S L → Yv p true (stl m S L).1 (stl m S L).2 ∧ (∀ u ∈ (stl m S L).1.head?, u.1 = 40 ∨ rk u.1 < m) ∧ opn (stl m S L).1 ≤ opn S
  | [], L, h => ⟨h, fun u hu => (by cases hu), Nat.le_refl _⟩
  | w :: S, L, h => by
    obtain ⟨h1, h2, h3, h4, h5, h6⟩ := id h
    have e : stl m (w :: S) L = if w.1 ≠ 40 ∧ m ≤ rk w.1 then stl m S (L ++ [emw w]) else (w :: S, L) := rfl
    rw [e]
    rw [wgt_cons] at h1
    rw [opn_cons] at h4
    by_cases c : w.1 ≠ 40 ∧ m ≤ rk w.1
    · rw [if_pos c]
      have hk := h3.2.1
      have hwb : wgt S ≤ 62 := Shp.bd h3.1 (fun u hu => h5 u (List.mem_cons_of_mem _ hu)) (by omega)
      have ha : ari (emw w) = arity w.1 := stp_low (it := emw w) (show w.1 ≤ 8 by omega)
      have h1' : hts L 0 = some (wg1 w + wgt S + 1) := h1
      have hY : Yv p true S (L ++ [emw w]) := by
        have key : hts (L ++ [emw w]) 0 = some (wgt S + 1) ∧ hmx (L ++ [emw w]) 0 ≤ 63 := by
          by_cases c8 : w.1 = 8
          · have a1 : ari (emw w) = 1 := by rw [ha, c8]; exact ar_neg (by unfold two; omega)
            have g1 : wg1 w = 0 := by unfold wg1; rw [if_neg c.1, if_pos c8]
            exact hts_1 h1' h2 (by omega) (by omega) (by omega)
          · have a1 : ari (emw w) = 2 := by rw [ha]; exact ar_pos (by unfold two; omega)
            have g1 : wg1 w = 1 := by unfold wg1; rw [if_neg c.1, if_neg c8]
            exact hts_1 h1' h2 (by omega) (by omega) (by omega)
        refine ⟨key.1, key.2, h3.1, by omega, fun u hu => h5 u (List.mem_cons_of_mem _ hu), mem_one h6 (Or.inl ?_)⟩
        show 1 ≤ w.1 ∧ w.1 ≤ 8
        omega
      obtain ⟨g1, g2, g3⟩ := Yv.pop hY
      exact ⟨g1, g2, by rw [opn_cons]; omega⟩
    · rw [if_neg c]
      refine ⟨h, fun u hu => ?_, Nat.le_refl _⟩
      have hu : u = w := (Option.some.inj hu).symm
      subst hu
      omega
/-- what comes of it: the items stay, what is called is called with so many values -/
theorem stl_pre {m : Nat} : ∀ (S : List Wt) (L : List It), (∃ M, (stl m S L).2 = L ++ M) ∧ (∃ P, S = P ++ (stl m S L).1 ∧ ∀ w ∈ P, w.1 ≠ 40)
  | [], L => ⟨⟨[], (List.append_nil _).symm⟩, [], rfl, fun w hw => (by cases hw)⟩
  | w :: S, L => by
    have e : stl m (w :: S) L = if w.1 ≠ 40 ∧ m ≤ rk w.1 then stl m S (L ++ [emw w]) else (w :: S, L) := rfl
    rw [e]
    by_cases c : w.1 ≠ 40 ∧ m ≤ rk w.1
    · rw [if_pos c]
      obtain ⟨⟨M, h1⟩, P, h2, h3⟩ := stl_pre S (L ++ [emw w])
      refine ⟨⟨[emw w] ++ M, by rw [h1, List.append_assoc]⟩, w :: P, by rw [List.cons_append, ← h2], fun u hu => ?_⟩
      rcases List.mem_cons.mp hu with rfl | hu
      · exact c.1
      · exact h3 u hu
    · rw [if_neg c]
      exact ⟨⟨[], (List.append_nil _).symm⟩, [], rfl, fun w hw => (by cases hw)⟩
def Fut (S : List Wt) (L Lf : List It) : Prop := (∃ M, Lf = L ++ M) ∧ ∀ w ∈ S, w.1 = 40 → ∀ u, w.2.2.1 = some u → ∃ it ∈ Lf, it.1 = 33 ∧ it.2.1 = u ∧ w.2.2.2 ≤ it.2.2.1
theorem Fut.pop {m : Nat} {S : List Wt} {L Lf : List It} (h : Fut (stl m S L).1 (stl m S L).2 Lf) : Fut S L Lf := by
  obtain ⟨⟨M, h1⟩, P, h2, h3⟩ := stl_pre (m := m) S L
  obtain ⟨⟨M', g1⟩, g2⟩ := h
  refine ⟨⟨M ++ M', by rw [g1, h1, List.append_assoc]⟩, fun w hw => ?_⟩
  rw [h2] at hw
  rcases List.mem_append.mp hw with q | q
  · exact fun z => absurd z (h3 w q)
  · exact g2 w q
theorem Fut.it {S : List Wt} {L Lf : List It} {it : It} (h : Fut S (L ++ [it]) Lf) : Fut S L Lf := by
  obtain ⟨⟨M', g1⟩, g2⟩ := h
  exact ⟨⟨[it] ++ M', by rw [g1, List.append_assoc]⟩, g2⟩
theorem Fut.w {S : List Wt} {L Lf : List It} {w : Wt} (h : Fut (w :: S) L Lf) : Fut S L Lf := ⟨h.1, fun u hu => h.2 u (List.mem_cons_of_mem _ hu)⟩
