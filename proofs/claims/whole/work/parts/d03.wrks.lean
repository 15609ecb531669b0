/-! ===== pure: working always ends ===== -/
def iGd (nv : Nat → Option Qv) (fp : Nat → Option Nat) (p : Nat) (it : It) : Prop := (1 ≤ it.1 ∧ it.1 ≤ 8) ∨ it.1 = 30 ∨ (it.1 = 31 ∧ ∃ q, nv it.2.1 = some q) ∨ (it.1 = 32 ∧ it.2.1 < p ∧ it.2.1 < 10) ∨ (it.1 = 33 ∧ (known it.2.1 = 0 → fp it.2.1 = some it.2.2.1))
def lGd (nv : Nat → Option Qv) (fp : Nat → Option Nat) (d : Nat → Nat) (p D : Nat) (l : List It) : Prop := l.length ≤ 200 ∧ ∀ it ∈ l, iGd nv fp p it ∧ (it.1 = 33 → known it.2.1 = 0 → d it.2.1 < D)
/-- the functions: each with its rank -/
def bGd (nv : Nat → Option Qv) (fp : Nat → Option Nat) (fb : Nat → Option (List It)) (d : Nat → Nat) : Prop := ∀ w n, fp w = some n → ∃ l, fb w = some l ∧ lGd nv fp d n (d w) l ∧ hts l 0 = some 1 ∧ hmx l 0 ≤ 63
def FrG (nv : Nat → Option Qv) (fp : Nat → Option Nat) (d : Nat → Nat) : Frs → Nat → Nat → Nat → Prop
  | [], og, D, p => og = 0 ∧ p = 0 ∧ D ≤ 10
  | (r, bt) :: fs, og, D, p => og = bt + p ∧ ∃ og' D' p', FrG nv fp d fs og' D' p' ∧ lGd nv fp d p' D' r ∧ og' ≤ bt ∧ hts r (bt - og' + 1) = some 1 ∧ hmx r (bt - og' + 1) ≤ 63 ∧ bt + p ≤ og' + 63 ∧ D < D'
theorem FrG.b {nv : Nat → Option Qv} {fp : Nat → Option Nat} {d : Nat → Nat} : ∀ {frs : Frs} {og D p : Nat}, FrG nv fp d frs og D p → frs.length + D ≤ 10 ∧ og ≤ 63 * frs.length
  | [], og, D, p, h => by
    obtain ⟨h1, h2, h3⟩ := h
    rw [List.length_nil]
    omega
  | (r, bt) :: fs, og, D, p, h => by
    obtain ⟨h1, og', D', p', h2, _, _, _, _, h3, h4⟩ := h
    obtain ⟨g1, g2⟩ := FrG.b h2
    rw [List.length_cons]
    omega
def frl (frs : Frs) : Nat := (frs.map fun f => f.1.length + 1).sum
theorem frl_cons (f : List It × Nat) (frs : Frs) : frl (f :: frs) = f.1.length + 1 + frl frs := by
  unfold frl
  rw [List.map_cons, List.sum_cons]
/-- what is left to be worked at most -/
def phi (cur : List It) (frs : Frs) (sts : Sts) : Nat := cur.length + frl frs + 202 * ((200 - sts.length) + (10 - frs.length))
theorem ari_pos {st : Nat} : 1 ≤ arity st ∧ arity st ≤ 2 := by
  unfold arity
  by_cases c : two st
  · rw [if_pos c]; omega
  · rw [if_neg c]; omega
theorem get_some {α : Type} {l : List α} {i : Nat} (h : i < l.length) : ∃ v, l[i]? = some v := ⟨l[i], List.getElem?_eq_getElem h⟩
/-- the step of an item -/
theorem wrk_it (nv : Nat → Option Qv) (fb : Nat → Option (List It)) (n : Nat) (stk : List Qv) (it : It) (r : List It) (frs : Frs) (pl : Nat) (sts : Sts) : wrk nv fb (n + 1) stk (it :: r) frs pl sts = if 990 ≤ stk.length then none
    else if it.1 = 33 ∧ known it.2.1 = 0 then
      if 10 ≤ frs.length ∨ stk.length < it.2.2.1 then none else (fb it.2.1).bind fun l => wrk nv fb n stk l ((r, stk.length - it.2.2.1) :: frs) (plc frs it pl) sts
    else if it.1 = 30 then wrk nv fb n (stk ++ [it.2.2.2.2]) r frs (plc frs it pl) sts
    else if it.1 = 31 then (nv it.2.1).bind fun q => wrk nv fb n (stk ++ [q]) r frs (plc frs it pl) sts
    else if it.1 = 32 then match frs with
      | [] => none
      | (_, bt) :: _ => (if it.2.1 < 10 then stk[bt + it.2.1]? else none).bind fun q => wrk nv fb n (stk ++ [q]) r frs (plc frs it pl) sts
    else if stp it = 0 ∨ 20 < stp it ∨ stp it = 9 ∨ stk.length < arity (stp it) then none
    else stk[stk.length - arity (stp it)]?.bind fun a => stk[stk.length - 1]?.bind fun b =>
      if sts.length = 200 then some (8, plc frs it pl, a, sts)
      else if ca (stp it) a b ≠ 0 then some (ca (stp it) a b, plc frs it pl, a, sts)
      else if ¬ qsm (wkq (stp it) a b) then some (7, plc frs it pl, a, sts)
      else wrk nv fb n (stk.take (stk.length - arity (stp it)) ++ [wkq (stp it) a b]) r frs (plc frs it pl) (sts ++ [(stp it, wkq (stp it) a b)]) := rfl
theorem wrk_some {nv : Nat → Option Qv} {fp : Nat → Option Nat} {fb : Nat → Option (List It)} {d : Nat → Nat} (hB : bGd nv fp fb d) : ∀ (n : Nat) (stk : List Qv) (cur : List It) (frs : Frs) (pl : Nat) (sts : Sts) (og D p : Nat), FrG nv fp d frs og D p → lGd nv fp d p D cur → og ≤ stk.length → hts cur (stk.length - og) = some 1 → hmx cur (stk.length - og) ≤ 63 → sts.length ≤ 200 → phi cur frs sts < n → ∃ r, wrk nv fb n stk cur frs pl sts = some r := by
  intro n
  induction n with
  | zero => intro stk cur frs pl sts og D p _ _ _ _ _ _ h; omega
  | succ n ih =>
    intro stk cur frs pl sts og D p hF hL hog hh hm hs hph
    have hFb := hF.b
    cases cur with
    | nil =>
      have h1 : stk.length - og = 1 := Option.some.inj hh
      cases frs with
      | nil =>
        obtain ⟨v, hv⟩ := get_some (l := stk) (i := 0) (by omega)
        exact ⟨(0, pl, v, sts), by show stk[0]?.map _ = _; rw [hv]; rfl⟩
      | cons f fs =>
        obtain ⟨r, bt⟩ := f
        obtain ⟨g1, og', D', p', g2, g3, g4, g5, g6, g7, g8⟩ := hF
        obtain ⟨v, hv⟩ := get_some (l := stk) (i := stk.length - 1) (by omega)
        have e : wrk nv fb (n + 1) stk [] ((r, bt) :: fs) pl sts = stk[stk.length - 1]?.bind fun v => if sts.length = 200 then some (8, pl, v, sts) else if stk.length ≤ bt then none else wrk nv fb n (stk.take bt ++ [v]) r fs pl (sts ++ [(9, v)]) := rfl
        rw [e, hv]
        show ∃ q, (if sts.length = 200 then some (8, pl, v, sts) else if stk.length ≤ bt then none else wrk nv fb n (stk.take bt ++ [v]) r fs pl (sts ++ [(9, v)])) = some q
        by_cases c : sts.length = 200
        · rw [if_pos c]; exact ⟨_, rfl⟩
        · rw [if_neg c, if_neg (by omega)]
          have el : (stk.take bt ++ [v]).length = bt + 1 := by
            rw [List.length_append, List.length_take, List.length_singleton]
            omega
          have es : (sts ++ [(9, v)]).length = sts.length + 1 := by rw [List.length_append, List.length_singleton]
          refine ih _ r fs pl _ og' D' p' g2 g3 (by omega) ?_ ?_ (by omega) ?_
          · rw [el, show bt + 1 - og' = bt - og' + 1 by omega]; exact g5
          · rw [el, show bt + 1 - og' = bt - og' + 1 by omega]; exact g6
          · unfold phi at hph ⊢
            have ef : frl ((r, bt) :: fs) = r.length + 1 + frl fs := frl_cons _ _
            rw [ef, List.length_nil, List.length_cons] at hph
            rw [List.length_cons] at hFb
            rw [es]
            omega
    | cons it r =>
      obtain ⟨hi, hd⟩ := hL.2 it List.mem_cons_self
      have hr : lGd nv fp d p D r := ⟨by have := hL.1; rw [List.length_cons] at this; omega, fun x hx => hL.2 x (List.mem_cons_of_mem _ hx)⟩
      have e1 : hts (it :: r) (stk.length - og) = if stk.length - og < ari it then none else hts r (stk.length - og - ari it + 1) := rfl
      rw [e1] at hh
      have hm2 := hmx_tl hm
      have hm1 := hmx_ge (it :: r) (stk.length - og)
      have hph2 : ∀ sts', sts.length ≤ List.length sts' → phi r frs sts' < n := fun sts' hs' => by
        unfold phi at hph ⊢
        rw [List.length_cons] at hph
        omega
      by_cases c : stk.length - og < ari it
      · rw [if_pos c] at hh; cases hh
      rw [if_neg c] at hh
      rw [wrk_it, if_neg (by omega)]
      have push : ari it = 0 → ∀ q, ∃ z, wrk nv fb n (stk ++ [q]) r frs (plc frs it pl) sts = some z := by
        intro ha q
        have el : (stk ++ [q]).length = stk.length + 1 := by rw [List.length_append, List.length_singleton]
        refine ih _ r frs _ sts og D p hF hr (by omega) ?_ ?_ hs (hph2 sts (Nat.le_refl _))
        · rw [el, show stk.length + 1 - og = stk.length - og - ari it + 1 by omega]; exact hh
        · rw [el, show stk.length + 1 - og = stk.length - og - ari it + 1 by omega]; exact hm2
      by_cases c33 : it.1 = 33 ∧ known it.2.1 = 0
      · rw [if_pos c33]
        have ha : ari it = it.2.2.1 := by
          unfold ari
          rw [if_neg (by omega), if_pos c33]
        have hfp : fp it.2.1 = some it.2.2.1 := by
          rcases hi with q | q | q | q | q
          · omega
          · omega
          · omega
          · omega
          · exact q.2 c33.2
        have hdl := hd c33.1 c33.2
        obtain ⟨l, hl, hg, ht, hx⟩ := hB _ _ hfp
        rw [if_neg (by omega), hl]
        show ∃ q, wrk nv fb n stk l ((r, stk.length - it.2.2.1) :: frs) (plc frs it pl) sts = some q
        refine ih stk l _ _ sts stk.length (d it.2.1) it.2.2.1 ⟨by omega, og, D, p, hF, hr, by omega, ?_, ?_, by omega, hdl⟩ hg (Nat.le_refl _) ?_ ?_ hs ?_
        · rw [show stk.length - it.2.2.1 - og + 1 = stk.length - og - ari it + 1 by omega]; exact hh
        · rw [show stk.length - it.2.2.1 - og + 1 = stk.length - og - ari it + 1 by omega]; exact hm2
        · rw [Nat.sub_self]; exact ht
        · rw [Nat.sub_self]; exact hx
        · have := hg.1
          unfold phi at hph ⊢
          rw [frl_cons, List.length_cons]
          rw [List.length_cons] at hph
          show l.length + (r.length + 1 + frl frs) + 202 * ((200 - sts.length) + (10 - (frs.length + 1))) < n
          omega
      rw [if_neg c33]
      by_cases c30 : it.1 = 30
      · rw [if_pos c30]
        exact push (by unfold ari; rw [if_pos (Or.inl c30)]) _
      rw [if_neg c30]
      by_cases c31 : it.1 = 31
      · rw [if_pos c31]
        have hq : ∃ q, nv it.2.1 = some q := by
          rcases hi with q | q | q | q | q
          · omega
          · omega
          · exact q.2
          · omega
          · omega
        obtain ⟨q, hq⟩ := hq
        rw [hq]
        exact push (by unfold ari; rw [if_pos (Or.inr (Or.inl c31))]) q
      rw [if_neg c31]
      by_cases c32 : it.1 = 32
      · rw [if_pos c32]
        have hq : it.2.1 < p ∧ it.2.1 < 10 := by
          rcases hi with q | q | q | q | q
          · omega
          · omega
          · omega
          · exact q.2
          · omega
        cases frs with
        | nil =>
          obtain ⟨_, g2, _⟩ := hF
          omega
        | cons f fs =>
          obtain ⟨r', bt⟩ := f
          obtain ⟨g1, _⟩ := id hF
          show ∃ z, ((if it.2.1 < 10 then stk[bt + it.2.1]? else none).bind fun q => wrk nv fb n (stk ++ [q]) r ((r', bt) :: fs) (plc ((r', bt) :: fs) it pl) sts) = some z
          rw [if_pos hq.2]
          obtain ⟨q, hv⟩ := get_some (l := stk) (i := bt + it.2.1) (by omega)
          rw [hv]
          exact push (by unfold ari; rw [if_pos (Or.inr (Or.inr c32))]) q
      rw [if_neg c32]
      have ha : ari it = arity (stp it) := by
        unfold ari
        rw [if_neg (by omega), if_neg c33]
      have hst : ¬ (stp it = 0 ∨ 20 < stp it ∨ stp it = 9) := by
        have hkb := known_b it.2.1
        unfold stp
        by_cases z : it.1 = 33
        · rw [if_pos z]
          have : known it.2.1 ≠ 0 := fun y => c33 ⟨z, y⟩
          omega
        · rw [if_neg z]
          rcases hi with q | q | q | q | q <;> omega
      have hap := ari_pos (st := stp it)
      rw [if_neg (by omega)]
      obtain ⟨a, hva⟩ := get_some (l := stk) (i := stk.length - arity (stp it)) (by omega)
      obtain ⟨b, hvb⟩ := get_some (l := stk) (i := stk.length - 1) (by omega)
      rw [hva, hvb]
      show ∃ z, (if sts.length = 200 then some (8, plc frs it pl, a, sts)
      else if ca (stp it) a b ≠ 0 then some (ca (stp it) a b, plc frs it pl, a, sts)
      else if ¬ qsm (wkq (stp it) a b) then some (7, plc frs it pl, a, sts)
      else wrk nv fb n (stk.take (stk.length - arity (stp it)) ++ [wkq (stp it) a b]) r frs (plc frs it pl) (sts ++ [(stp it, wkq (stp it) a b)])) = some z
      by_cases c1 : sts.length = 200
      · rw [if_pos c1]; exact ⟨_, rfl⟩
      rw [if_neg c1]
      by_cases c2 : ca (stp it) a b ≠ 0
      · rw [if_pos c2]; exact ⟨_, rfl⟩
      rw [if_neg c2]
      by_cases c3 : ¬ qsm (wkq (stp it) a b)
      · rw [if_pos c3]; exact ⟨_, rfl⟩
      rw [if_neg c3]
      have el : (stk.take (stk.length - arity (stp it)) ++ [wkq (stp it) a b]).length = stk.length - arity (stp it) + 1 := by
        rw [List.length_append, List.length_take, List.length_singleton]
        omega
      have es : (sts ++ [(stp it, wkq (stp it) a b)]).length = sts.length + 1 := by rw [List.length_append, List.length_singleton]
      refine ih _ r frs _ _ og D p hF hr (by omega) ?_ ?_ (by omega) (hph2 _ (by omega))
      · rw [el, show stk.length - arity (stp it) + 1 - og = stk.length - og - ari it + 1 by omega]; exact hh
      · rw [el, show stk.length - arity (stp it) + 1 - og = stk.length - og - ari it + 1 by omega]; exact hm2
/-- only the names that are come to matter -/
theorem wrk_nv {nv nv' : Nat → Option Qv} {fb fb' : Nat → Option (List It)} {C : It → Prop} (hC : ∀ it, C it → it.1 = 33 → known it.2.1 = 0 → ∀ l, fb it.2.1 = some l → ∀ x ∈ l, C x) (hN : ∀ it, C it → it.1 = 31 → nv it.2.1 = nv' it.2.1) (hB : ∀ it, C it → it.1 = 33 → known it.2.1 = 0 → fb it.2.1 = fb' it.2.1) : ∀ (n : Nat) (stk : List Qv) (cur : List It) (frs : Frs) (pl : Nat) (sts : Sts), (∀ it ∈ cur, C it) → (∀ f ∈ frs, ∀ it ∈ f.1, C it) → wrk nv fb n stk cur frs pl sts = wrk nv' fb' n stk cur frs pl sts := by
  intro n
  induction n with
  | zero => intro stk cur frs pl sts _ _; rfl
  | succ n ih =>
    intro stk cur frs pl sts h1 h2
    cases cur with
    | nil =>
      cases frs with
      | nil => rfl
      | cons f fs =>
        obtain ⟨r, bt⟩ := f
        show (stk[stk.length - 1]?.bind fun v => if sts.length = 200 then some (8, pl, v, sts) else if stk.length ≤ bt then none else wrk nv fb n (stk.take bt ++ [v]) r fs pl (sts ++ [(9, v)])) = stk[stk.length - 1]?.bind fun v => if sts.length = 200 then some (8, pl, v, sts) else if stk.length ≤ bt then none else wrk nv' fb' n (stk.take bt ++ [v]) r fs pl (sts ++ [(9, v)])
        have e : ∀ v, wrk nv fb n (stk.take bt ++ [v]) r fs pl (sts ++ [(9, v)]) = wrk nv' fb' n (stk.take bt ++ [v]) r fs pl (sts ++ [(9, v)]) := fun v => ih _ _ _ _ _ (h2 (r, bt) List.mem_cons_self) (fun f hf => h2 f (List.mem_cons_of_mem _ hf))
        simp only [e]
    | cons it r =>
      have hi := h1 it List.mem_cons_self
      have hr : ∀ x ∈ r, C x := fun x hx => h1 x (List.mem_cons_of_mem _ hx)
      have e0 : ∀ stk' pl' sts', wrk nv fb n stk' r frs pl' sts' = wrk nv' fb' n stk' r frs pl' sts' := fun stk' pl' sts' => ih _ _ _ _ _ hr h2
      rw [wrk_it, wrk_it]
      by_cases c9 : 990 ≤ stk.length
      · rw [if_pos c9, if_pos c9]
      rw [if_neg c9, if_neg c9]
      by_cases c33 : it.1 = 33 ∧ known it.2.1 = 0
      · rw [if_pos c33, if_pos c33]
        by_cases c : 10 ≤ frs.length ∨ stk.length < it.2.2.1
        · rw [if_pos c, if_pos c]
        rw [if_neg c, if_neg c, ← hB it hi c33.1 c33.2]
        cases hb : fb it.2.1 with
        | none => rfl
        | some l =>
          show wrk nv fb n stk l ((r, stk.length - it.2.2.1) :: frs) (plc frs it pl) sts = wrk nv' fb' n stk l ((r, stk.length - it.2.2.1) :: frs) (plc frs it pl) sts
          refine ih _ _ _ _ _ (hC it hi c33.1 c33.2 l hb) (fun f hf => ?_)
          rcases List.mem_cons.mp hf with rfl | hf
          · exact hr
          · exact h2 f hf
      rw [if_neg c33, if_neg c33]
      by_cases c30 : it.1 = 30
      · rw [if_pos c30, if_pos c30]
        exact e0 _ _ _
      rw [if_neg c30, if_neg c30]
      by_cases c31 : it.1 = 31
      · rw [if_pos c31, if_pos c31, hN it hi c31]
        simp only [e0]
      rw [if_neg c31, if_neg c31]
      by_cases c32 : it.1 = 32
      · rw [if_pos c32, if_pos c32]
        cases frs with
        | nil => rfl
        | cons f fs => simp only [e0]
      rw [if_neg c32, if_neg c32]
      simp only [e0]
