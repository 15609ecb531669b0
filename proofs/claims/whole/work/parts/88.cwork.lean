/-! ===== what a step gives is a value ===== -/
theorem sg_mul {s t : Int} (h1 : s = 1 ∨ s = -1) (h2 : t = 1 ∨ t = -1) : s * t = 1 ∨ s * t = -1 := by
  rcases h1 with rfl | rfl <;> rcases h2 with rfl | rfl <;> omega
theorem wkq_ok {st : Nat} {p q : Qv} (hp : qok p) (hq : qok q) (hca : ca st p q = 0) (hst : 1 ≤ st ∧ st ≤ 20 ∧ st ≠ 9) (hsm : qsm (wkq st p q)) : qok (wkq st p q) := by
  have d1 : 0 < p.2.2 := hp.2.2.1
  have d2 : 0 < q.2.2 := hq.2.2.1
  have g1 := hp.sg
  have g2 := hq.sg
  have z1 := hp.2.1
  have z2 := hq.2.1
  have n1 : p.2.1 ≠ 0 → p.1 = 1 ∨ p.1 = -1 := fun h => by omega
  have n2 : q.2.1 ≠ 0 → q.1 = 1 ∨ q.1 = -1 := fun h => by omega
  have hdd : 0 < p.2.2 * q.2.2 := Nat.mul_pos d1 d2
  have hq45 : st = 4 ∨ st = 5 → q.2.1 ≠ 0 := by
    intro h e
    unfold ca at hca
    rw [if_neg (by omega), if_neg (by omega), if_neg (by omega), if_pos ⟨h, by omega⟩] at hca
    omega
  unfold wkq at hsm ⊢
  by_cases c1 : st = 1
  · rw [if_pos c1] at hsm ⊢
    exact qmk_ok hdd (jn_ok hp hq (Or.inl rfl) d2 d1) hsm
  rw [if_neg c1] at hsm ⊢
  by_cases c2 : st = 2
  · rw [if_pos c2] at hsm ⊢
    exact qmk_ok hdd (jn_ok hp hq (Or.inr rfl) d2 d1) hsm
  rw [if_neg c2] at hsm ⊢
  by_cases c3 : st = 3
  · rw [if_pos c3] at hsm ⊢
    refine qmk_ok hdd (fun h => sg_mul (n1 fun e => h ?_) (n2 fun e => h ?_)) hsm
    · rw [e, Nat.zero_mul]
    · rw [e, Nat.mul_zero]
  rw [if_neg c3] at hsm ⊢
  by_cases c4 : st = 4
  · rw [if_pos c4] at hsm ⊢
    have h4 := hq45 (Or.inl c4)
    refine qmk_ok (Nat.mul_pos d1 (Nat.pos_of_ne_zero h4)) (fun h => sg_mul (n1 fun e => h ?_) (n2 h4)) hsm
    rw [e, Nat.zero_mul]
  rw [if_neg c4] at hsm ⊢
  by_cases c5 : st = 5
  · rw [if_pos c5] at hsm ⊢
    exact qmk_ok hdd (fun _ => n2 (hq45 (Or.inr c5))) hsm
  rw [if_neg c5] at hsm ⊢
  by_cases c6 : st = 6
  · rw [if_pos c6] at hsm ⊢
    refine qmk_ok ?_ (fun _ => by split <;> omega) hsm
    refine Nat.pow_pos ?_
    unfold pwc
    split
    · rename_i h
      apply Nat.pos_of_ne_zero
      intro e
      have hq100 : q.2.2 = 1 ∧ q.2.1 ≤ 100 := by
        apply Classical.byContradiction
        intro q9
        unfold ca at hca
        rw [if_pos ⟨c6, q9⟩] at hca
        omega
      have hs : asI q = q.1 * q.2.1 := asI_sm hq100.2
      have hq1 : q.1 < 0 := by
        rcases (show q.1 = -1 ∨ q.1 = 0 ∨ q.1 = 1 by omega) with h9 | h9 | h9
        · omega
        · rw [hs, h9] at h; omega
        · rw [hs, h9] at h; omega
      unfold ca at hca
      rw [if_neg (fun q9 => q9.2 hq100), if_neg (by omega), if_neg (by omega), if_neg (by omega), if_pos ⟨c6, z1.mpr e, hq1⟩] at hca
      omega
    · exact d1
  rw [if_neg c6] at hsm ⊢
  by_cases c7 : st = 7
  · rw [if_pos c7] at hsm ⊢
    exact qmk_ok (by omega) (fun _ => Or.inl rfl) hsm
  rw [if_neg c7] at hsm ⊢
  by_cases c8 : st = 8
  · rw [if_pos c8] at hsm ⊢
    exact ⟨by show -p.1 = 0 ∨ -p.1 = 1 ∨ -p.1 = -1; omega, by show -p.1 = 0 ↔ p.2.1 = 0; omega, hp.2.2⟩
  rw [if_neg c8] at hsm ⊢
  by_cases c10 : st = 10
  · rw [if_pos c10] at hsm ⊢
    exact qmk_ok (by omega) (fun _ => Or.inl rfl) hsm
  rw [if_neg c10] at hsm ⊢
  by_cases c11 : st = 11
  · rw [if_pos c11] at hsm ⊢
    exact qmk_ok (by omega) (fun _ => Or.inl rfl) hsm
  rw [if_neg c11] at hsm ⊢
  by_cases c12 : st = 12 ∨ st = 13 ∨ st = 14
  · rw [if_pos c12] at hsm ⊢
    refine qmk_ok (by omega) (fun h => n1 fun e => h ?_) hsm
    unfold rnd
    simp only [e, Nat.zero_div, Nat.zero_mod, ne_eq, not_true_eq_false, false_and, if_false]
    split
    · rw [if_neg (by omega)]
    · rfl
  rw [if_neg c12] at hsm ⊢
  by_cases c15 : st = 15
  · rw [if_pos c15] at hsm ⊢
    exact qmk_ok d1 (fun _ => Or.inl rfl) hsm
  rw [if_neg c15] at hsm ⊢
  by_cases c16 : st = 16
  · rw [if_pos c16] at hsm ⊢
    have := jn_ok hp hq (Or.inl rfl : q.1 = q.1 ∨ q.1 = -q.1) (show 0 < 1 by omega) (show 0 < 1 by omega)
    rw [Nat.mul_one, Nat.mul_one] at this
    exact qmk_ok (by omega) this hsm
  rw [if_neg c16] at hsm ⊢
  by_cases c17 : st = 17
  · rw [if_pos c17] at hsm ⊢
    exact qmk_ok (by omega) n1 hsm
  rw [if_neg c17] at hsm ⊢
  by_cases c18 : st = 18
  · rw [if_pos c18] at hsm ⊢
    exact qmk_ok (by omega) (fun _ => Or.inl rfl) hsm
  rw [if_neg c18] at hsm ⊢
  split
  · exact hp
  · exact hq
/-! ===== the class' Machine: work ===== -/
/-- what is called has so many values -/
def OkI (fs : List FE) (it : It) : Prop := it.1 = 33 → known it.2.1 = 0 → fnp fs it.2.1 = some it.2.2.1
theorem Gs.z {σ : St} {a st : Nat} {p q : Qv} (h : Gs σ a st p q) (hc : ca st p q = 0) : Gv σ a (wkq st p q) := by
  unfold Gs at h
  rw [if_pos hc] at h
  exact h
theorem Gs.n {σ : St} {a st : Nat} {p q : Qv} (h : Gs σ a st p q) (hc : ca st p q ≠ 0) : ∃ (s : Int) (n d : Nat), FX σ a s n d ∧ dig30 ≤ n := by
  unfold Gs at h
  rw [if_neg hc] at h
  obtain ⟨s, n, d, h1, h2, _⟩ := h
  exact ⟨s, n, d, h1, h2⟩
theorem sCM {x : Nat} : ∀ T, tMu T → ¬ sC x (x + T) := fun T hT => by
  simp only [sC]
  rcases hT with rfl | rfl | rfl <;> omega
theorem FrC.len {σ : St} {x : Nat} {fr : Frs} (h : FrC σ x fr) : fr.length ≤ 10 := by
  cases fr with
  | nil => simp
  | cons p fs => exact h.2.1.2.2
theorem fin_cons {it : It} {r : List It} {fr : Frs} {h : Nat} (hF : Fin (it :: r) fr h) (c : Nat) (hc : ari it = c) : (fr ≠ [] → ∀ h', Fin r fr h') ∧ (fr = [] → c ≤ h ∧ hts r (h - c + 1) = some 1) := by
  unfold Fin at hF
  refine ⟨fun hne h' => ?_, fun he => ?_⟩
  · unfold Fin
    cases hl : fr.getLast? with
    | none => exact absurd (List.getLast?_eq_none_iff.mp hl) hne
    | some p =>
      rw [hl] at hF
      exact hF
  · subst he
    simp only [List.getLast?_nil, hts] at hF
    rw [hc] at hF
    split at hF
    · cases hF
    · exact ⟨by omega, hF⟩
theorem fin_step {it : It} {r : List It} {fr : Frs} {h c : Nat} (hF : Fin (it :: r) fr h) (hc : ari it = c) : Fin r fr (h - c + 1) := by
  obtain ⟨h1, h2⟩ := fin_cons hF c hc
  by_cases e : fr = []
  · have := (h2 e).2
    subst e
    unfold Fin
    simp only [List.getLast?_nil]
    exact this
  · exact h1 e _
theorem fin_call {it : It} {r l : List It} {fr : Frs} {h c h' : Nat} (hF : Fin (it :: r) fr h) (hc : ari it = c) : Fin l ((r, h - c) :: fr) h' := by
  obtain ⟨h1, h2⟩ := fin_cons hF c hc
  unfold Fin
  cases fr with
  | nil => exact (h2 rfl).2
  | cons p fr' =>
    have e : ((r, h - c) :: p :: fr').getLast? = (p :: fr').getLast? := by rw [List.getLast?_cons_cons]
    rw [e]
    have := h1 (by simp) h'
    unfold Fin at this
    cases hl : (p :: fr').getLast? with
    | none => exact absurd (List.getLast?_eq_none_iff.mp hl) (by simp)
    | some p9 =>
      rw [hl] at this
      exact this
theorem fin_ret {r : List It} {bt h : Nat} {fr : Frs} {cur : List It} (hF : Fin cur ((r, bt) :: fr) h) : Fin r fr (bt + 1) := by
  unfold Fin at hF ⊢
  cases fr with
  | nil => exact hF
  | cons p fr' =>
    rw [List.getLast?_cons_cons] at hF
    cases hl : (p :: fr').getLast? with
    | none => exact absurd (List.getLast?_eq_none_iff.mp hl) (by simp)
    | some p9 =>
      rw [hl] at hF
      exact hF
