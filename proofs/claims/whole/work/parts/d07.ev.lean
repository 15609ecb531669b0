/-! ===== pure: what a text on the tape leads to ===== -/
theorem hdp_pos {t : List Nat} : ∀ (k i : Nat) (ps : List Nat) (j : Nat) (qs : List Nat), hdp t k i ps = .inr (j, qs) → 1 ≤ qs.length := by
  intro k
  induction k with
  | zero => intro i ps j qs h; cases h
  | succ k ih =>
    intro i ps j qs h
    have e : hdp t (k + 1) i ps = if 4 ≤ ps.length ∨ fix ps (tk t i).2.1 ≠ none then .inl i else if (tk t (i + 1)).1 = 41 then .inr (i + 3, ps ++ [(tk t i).2.1]) else hdp t k (i + 2) (ps ++ [(tk t i).2.1]) := rfl
    rw [e] at h
    split at h
    · cases h
    split at h
    · cases h
      rw [List.length_append, List.length_singleton]
      omega
    · exact ih _ _ _ _ h
theorem prn_of {t : List Nat} {i : Nat} {ps : List Nat} (h : hdf t = .inr (i, ps)) : prn t = ps.length ∧ (frm t ≠ 2 → ps.length = 0) ∧ (frm t = 2 → 1 ≤ ps.length) := by
  have hb := frm_b t
  refine ⟨by unfold prn; rw [h], ?_, ?_⟩
  · intro h2
    unfold hdf at h
    by_cases c0 : frm t = 0
    · rw [if_pos c0] at h; cases h; rfl
    · rw [if_neg c0, if_pos (by omega)] at h; cases h; rfl
  · intro h2
    unfold hdf at h
    rw [if_neg (by omega), if_neg (by omega)] at h
    exact hdp_pos _ _ _ _ _ h
theorem frm_wk {t : List Nat} (h : frm t ≠ 0) : Wok (tk t 0).2.1 := by
  have hb := frm_b t
  by_cases c : frm t = 1
  · exact tk_ok (frm_1 c).1
  · exact tk_ok (frm_2 (show frm t = 2 by omega)).1
theorem Bkz.calls {A : As} {l : List It} (h : Bkz A) (hu : unk A.1 A.2.1 l = none) : ∀ it ∈ l, it.1 = 33 → ari it = it.2.2.1 ∧ it.2.2.1 ≤ 4 := by
  intro it hit h33
  have hk := unk_none.mp hu it hit
  unfold iknown at hk
  rw [if_neg (by omega), if_pos h33] at hk
  have hk := beq_iff_eq.mp hk
  unfold vof at hk
  unfold ari
  rw [if_neg (by omega)]
  by_cases c : known it.2.1 = 0
  · rw [if_pos c] at hk
    rw [if_pos ⟨h33, c⟩]
    refine ⟨rfl, ?_⟩
    obtain ⟨k, e, _, h2, h3, h4⟩ := fnp_some hk
    have := (h.2.2.1 e (List.mem_of_getElem? h2)).2.2
    omega
  · rw [if_neg c] at hk
    rw [if_neg (fun z => c z.2)]
    have e : stp it = known it.2.1 := if_pos h33
    have := Option.some.inj hk
    have := ari_pos (st := known it.2.1)
    rw [e]
    omega
theorem RunR.no {A : As} {form w wp np : Nat} {l : List It} {oc : Ocm} {r : Nat × Nat × List Int} (h : rfs A.1 A.2.1 (Ths A.1 A.2.1) form w wp np l = some r) : RunR A form w wp np l oc = (oc = .inl (r.1, r.2.1, -1, r.2.2)) := by
  unfold RunR
  rw [h]
theorem RunR.ye {A : As} {form w wp np : Nat} {l : List It} {oc : Ocm} (h : rfs A.1 A.2.1 (Ths A.1 A.2.1) form w wp np l = none) : RunR A form w wp np l oc = ((form = 2 ∧ ∃ fs1 res, RunF A w np l fs1 res ∧ oc = ocR A A.1 fs1 none res) ∨
    (form ≠ 2 ∧ (∀ it ∈ l, OkI A.2.1 it) ∧ hts l 0 = some 1 ∧ ∃ r, wrk (nvl A.1) (fbd A.2.1) 1000000 [] l [] 0 [] = some r ∧
      ((r.1 ≠ 0 ∧ oc = .inl (r.1, r.2.1, -1, [])) ∨ (r.1 = 0 ∧ form = 0 ∧ oc = .inr (some (r.2.2.1, r.2.2.2), A)) ∨ (r.1 = 0 ∧ form = 1 ∧ ∃ ns1 res, RunN A w l r.2.2.1 ns1 res ∧ oc = ocR A ns1 A.2.1 (some (r.2.2.1, r.2.2.2)) res)))) := by
  unfold RunR
  rw [h]
theorem ocR_kz {A : As} {ns1 : List NE} {fs1 : List FE} {v : Option (Qv × Sts)} {res : Nat ⊕ List NE} (h : ∀ ns', res = .inr ns' → Bkz (ns', fs1, A.2.2)) : ∀ v' A', ocR A ns1 fs1 v res = .inr (v', A') → Bkz A' ∧ A'.2.2 = A.2.2 := by
  intro v' A' e
  cases res with
  | inl fw => cases e
  | inr ns' =>
    have e : (.inr (v, (ns', fs1, A.2.2)) : Ocm) = .inr (v', A') := e
    cases e
    exact ⟨h ns' rfl, rfl⟩
theorem Bkz.ev {A : As} (h : Bkz A) {t : List Nat} {rr : Nat ⊕ List It} (hr : Rdd t rr) (hl : ∀ l, rr = .inr l → l.length ≤ 200) : ∃ E, Ev A t E ∧ ∀ l v A', E = .inr (l, .inr (v, A')) → Bkz A' ∧ A'.2.2 = A.2.2 := by
  cases rr with
  | inl i => exact ⟨.inl i, hr, fun l v A' e => (by cases e)⟩
  | inr l =>
    have hb := frm_b t
    have hl := hl l rfl
    have fin : ∀ oc, RunR A (frm t) (tk t 0).2.1 (tk t 0).2.2.1 (prn t) l oc → (∀ v' A', oc = .inr (v', A') → Bkz A' ∧ A'.2.2 = A.2.2) → ∃ E, Ev A t E ∧ ∀ l v A', E = .inr (l, .inr (v, A')) → Bkz A' ∧ A'.2.2 = A.2.2 := by
      intro oc h1 h2
      refine ⟨.inr (l, oc), ⟨hr, h1, fun form w => h.rng form w l⟩, fun l' v A' e => ?_⟩
      cases e
      exact h2 v A' rfl
    cases hrf : rfs A.1 A.2.1 (Ths A.1 A.2.1) (frm t) (tk t 0).2.1 (tk t 0).2.2.1 (prn t) l with
    | some r =>
      refine fin (.inl (r.1, r.2.1, -1, r.2.2)) ?_ (fun v' A' e => by cases e)
      rw [RunR.no hrf]
    | none =>
      have hun := (rfs_ok hrf).1
      obtain ⟨p, hp4, h1, h2, h3, i, ps, hh, hpl⟩ := rdd_end hr (h.calls hun)
      obtain ⟨q1, q2, q3⟩ := prn_of hh
      by_cases c2 : frm t = 2
      · rw [c2] at hrf
        obtain ⟨fs1, res, g1, g2⟩ := h.tellF (frm_wk (by omega)) (np := prn t) ⟨by have := q3 c2; omega, by omega⟩ ⟨hl, h1, h2, by rw [q1, hpl]; exact h3⟩ hrf
        refine fin (ocR A A.1 fs1 none res) ?_ (ocR_kz g2)
        rw [c2, RunR.ye hrf]
        exact Or.inl ⟨rfl, fs1, res, g1, rfl⟩
      · have hz := q2 c2
        have hp0 : p = 0 := by omega
        subst hp0
        obtain ⟨r, hw⟩ := h.q.work ⟨hl, h1, h2, h3⟩ hun
        by_cases cr : r.1 = 0
        · by_cases c0 : frm t = 0
          · refine fin (.inr (some (r.2.2.1, r.2.2.2), A)) ?_ (fun v' A' e => by cases e; exact ⟨h, rfl⟩)
            rw [RunR.ye hrf]
            exact Or.inr ⟨c2, okI_of hun, h1, r, hw, Or.inr (Or.inl ⟨cr, c0, rfl⟩)⟩
          · have c1 : frm t = 1 := by omega
            have hpz : prn t = 0 := by omega
            have hrf1 := hrf
            rw [c1, hpz] at hrf1
            obtain ⟨ns1, res, g1, g2⟩ := h.tellN (frm_wk c0) ⟨hl, h1, h2, h3⟩ hrf1 hw cr
            refine fin (ocR A ns1 A.2.1 (some (r.2.2.1, r.2.2.2)) res) ?_ (ocR_kz g2)
            rw [RunR.ye hrf]
            exact Or.inr ⟨c2, okI_of hun, h1, r, hw, Or.inr (Or.inr ⟨cr, c1, ns1, res, g1, rfl⟩)⟩
        · refine fin (.inl (r.1, r.2.1, -1, [])) ?_ (fun v' A' e => by cases e)
          rw [RunR.ye hrf]
          exact Or.inr ⟨c2, okI_of hun, h1, r, hw, Or.inl ⟨cr, rfl⟩⟩
