/-! ===== the reference works something told: the loop ===== -/
theorem Stk.push {σ : St} {m vm n h vi : Nat} {stk : List Qv} {q : Qv} (hS : Stk σ m vm n stk) (hh : h ≤ stk.length) (hV : Vl σ m vi q) (hP : Pv vm n vi) : Stk (wA σ (m + 22) h (nI vi)) m vm n (stk.take h ++ [q]) := by
  have hw : ∀ vj p, Vl σ m vj p → Vl (wA σ (m + 22) h (nI vi)) m vj p := by
    rintro vj p ⟨b1, b2, b3, b4⟩
    refine ⟨b1, ?_, fun k hk => ?_, fun k hk => ?_⟩
    · rw [sA_wA_b (by omega)]; exact b2
    · rw [sA_wA_b (by omega)]; exact b3 k hk
    · rw [sA_wA_b (by omega)]; exact b4 k hk
  intro j p hj
  have hl : (stk.take h).length = h := by rw [List.length_take]; omega
  by_cases hjh : j < h
  · rw [List.getElem?_append_left (by omega), List.getElem?_take, if_pos hjh] at hj
    obtain ⟨vj, q1, q2, q3⟩ := hS j p hj
    exact ⟨vj, by rw [sA_wA_j (by omega)]; exact q1, hw _ _ q2, q3⟩
  · rw [List.getElem?_append_right (by omega), hl] at hj
    have h0 : j - h = 0 := by
      apply Classical.byContradiction
      intro h9
      rw [List.getElem?_eq_none (by simp; omega)] at hj
      cases hj
    rw [h0] at hj
    cases hj
    rw [show j = h by omega]
    exact ⟨vi, sA_wA_eq, hw _ _ hV, hP⟩
theorem Stk.keepM {σ σ' : St} {m vm n : Nat} {stk : List Qv} {F A : List Nat} {V : Nat → Prop} (hS : Stk σ m vm n stk) (hR : rfM m F A V σ σ') (hA : 22 ∉ A) (hv : ∀ i, Pv vm n i → ¬ V i) : Stk σ' m vm n stk := by
  intro j q hj
  obtain ⟨vi, q1, q2, q3⟩ := hS j q hj
  exact ⟨vi, by rw [hR.ar 22 ⟨hA, by omega, by omega⟩]; exact q1, q2.keepM hR (hv vi q3), q3⟩
theorem Pv.mono {vm n n' i : Nat} (h : Pv vm n i) (hn : n ≤ n') : Pv vm n' i := by unfold Pv at *; omega
theorem Stk.mono {σ : St} {m vm n n' : Nat} {stk : List Qv} (hS : Stk σ m vm n stk) (hn : n ≤ n') : Stk σ m vm n' stk := fun j q hj => by
  obtain ⟨vi, q1, q2, q3⟩ := hS j q hj
  exact ⟨vi, q1, q2, q3.mono hn⟩
theorem Ste.app {σ σ' : St} {m vm st vi : Nat} {q : Qv} {sts : Sts} {F A : List Nat} {V : Nat → Prop} (hS : Ste σ m vm sts) (hl : sts.length < 200) (hR : rfM m F A V σ σ') (hv : ∀ i, Pv vm sts.length i → ¬ V i) (h55 : Fi σ' m 55 (nI (sts.length + 1)))
    (hk : sA σ' (m + 23) sts.length = nI st) (hv2 : sA σ' (m + 24) sts.length = nI vi) (hq : Vl σ' m vi q) (hP : Pv vm (sts.length + 1) vi) (ho : ∀ k, k ≠ sts.length → sA σ' (m + 23) k = sA σ (m + 23) k ∧ sA σ' (m + 24) k = sA σ (m + 24) k) : Ste σ' m vm (sts ++ [(st, q)]) := by
  have hlen : (sts ++ [(st, q)]).length = sts.length + 1 := by simp
  refine ⟨by rw [hlen]; exact h55, by omega, fun j s hj => ?_⟩
  rw [hlen]
  by_cases hjl : j < sts.length
  · rw [List.getElem?_append_left hjl] at hj
    obtain ⟨q1, vj, q2, q3, q4⟩ := hS.2.2 j s hj
    refine ⟨by rw [(ho j (by omega)).1]; exact q1, vj, by rw [(ho j (by omega)).2]; exact q2, q3.keepM hR (hv vj q4), q4.mono (by omega)⟩
  · rw [List.getElem?_append_right (by omega)] at hj
    have h0 : j - sts.length = 0 := by
      apply Classical.byContradiction
      intro h9
      rw [List.getElem?_eq_none (by simp; omega)] at hj
      cases hj
    rw [h0] at hj
    cases hj
    rw [show j = sts.length by omega]
    exact ⟨hk, vi, hv2, hq, hP⟩
theorem Frm.out0 {σ : St} {m vm pl : Nat} : ∀ {fs : Frs}, Frm σ m vm pl fs → fs ≠ [] → sA σ (m + 29) 0 = nI pl := by
  intro fs
  induction fs with
  | nil => intro _ h; exact absurd rfl h
  | cons f fs ih =>
    rintro ⟨_, _, a6, a7⟩ _
    by_cases h : fs = []
    · subst h
      exact a6
    · exact ih a7 h
abbrev AW : List Nat := [1, 2, 22, 23, 24, 26, 27, 28, 29]
def VW : Nat → Prop := fun i => i < 200
def Wpost (σ : St) (m vm : Nat) (r : Rs) (σ' : St) (v : Int32) : Prop :=
  (r.1 = 0 ∧ rfM m [55] AW VW σ σ' ∧ (∃ vi, v = nI vi ∧ Vl σ' m vi r.2.2.1 ∧ Pv vm r.2.2.2.length vi) ∧ Ste σ' m vm r.2.2.2) ∨
  (r.1 ≠ 0 ∧ rfM m [43, 44, 45, 46, 55] AW VW σ σ' ∧ v = iz (-1) ∧ Fi σ' m 43 (nI r.1) ∧ Fi σ' m 44 (nI r.2.1) ∧ Fi σ' m 45 (iz (-1)) ∧ Fi σ' m 46 (nI 0))
theorem Wpost.pre {σ σ1 σ' : St} {m vm : Nat} {r : Rs} {v : Int32} (h : Wpost σ1 m vm r σ' v) (hR : rfM m [55] AW VW σ σ1) : Wpost σ m vm r σ' v := by
  rcases h with ⟨a, b, c⟩ | ⟨a, b, c⟩
  · exact Or.inl ⟨a, hR.tr b, c⟩
  · exact Or.inr ⟨a, (hR.mo (by simp) (fun _ h => h)).tr b, c⟩
theorem Wpost.rfd {σ σ' : St} {m vm c pl : Nat} {q : Qv} {sts : Sts} {v : Int32} (h : Rfd σ m c pl σ' v) (hc : c ≠ 0) : Wpost σ m vm (c, pl, q, sts) σ' v :=
  Or.inr ⟨hc, h.2.1.mo (by simp) (fun _ h => absurd h id), h.1, h.2.2.1, h.2.2.2.1, h.2.2.2.2.1, h.2.2.2.2.2⟩
theorem sm_m1 (a : Nat) : nI (a + 1) + -nI 1 = nI a := by
  rw [sm_iz, sm_iz, iz_neg, iz_add, sm_iz]
  congr 1
  omega
/-- what the loop holds -/
def Wst (σ : St) (m vm : Nat) (ns : List NE) (fs : List FE) (stk : List Qv) (cur : List It) (fr : Frs) (pl : Nat) (sts : Sts) (k : Nat) : Prop :=
  MS σ m ∧ Rbk σ m vm ns fs ∧ (Stk σ m vm sts.length stk ∧ stk.length ≤ 1000) ∧ Its σ m vm k cur ∧ (Frm σ m vm pl fr ∧ fr.length ≤ 10) ∧ Ste σ m vm sts ∧ pl ≤ 200
theorem rf_worked_loop {m vm : Nat} {ns : List NE} {fs : List FE} (hvm : vm ≤ 12600) : ∀ (n N : Nat) (σ : St) (stk : List Qv) (cur : List It) (fr : Frs) (pl : Nat) (sts : Sts) (r : Rs) (k : Nat), n < N → wrk (nvl ns) (fbd fs) n stk cur fr pl sts = some r → Wst σ m vm ns fs stk cur fr pl sts k →
    Hx (fX12_worked_25 N σ m (nI stk.length) (nI fr.length) (nI k) (nI (k + cur.length))) (Wpost σ m vm r) := by
  intro n
  induction n with
  | zero => intro N σ stk cur fr pl sts r k _ h; cases cur <;> cases fr <;> cases h
  | succ n ih =>
    intro N σ stk cur fr pl sts r k hN hw hst
    obtain ⟨hm, hB, ⟨hS, hSl⟩, hI, ⟨hF, hFl⟩, hE, hpl⟩ := id hst
    obtain ⟨N, rfl⟩ : ∃ N', N = N' + 1 := ⟨N - 1, by omega⟩
    have hvP : ∀ i, 600 ≤ i → i < vm → ¬ VW i := fun i h1 _ h2 => by unfold VW at h2; omega
    have hstn : sI σ (fid 16 55) m = nI sts.length := hE.1
    have hI1 := hI.1
    rw [fX12_worked_25]
    -- what can be kept of a push on the stack
    have push : ∀ (σ1 : St) (h vi : Nat) (q : Qv) (sts1 : Sts) (cur1 : List It) (fr1 : Frs) (pl1 k1 : Nat), rfM m [55] AW VW σ σ1 → MS σ1 m → Rbk σ1 m vm ns fs → Stk σ1 m vm sts1.length stk → h ≤ stk.length → h < 1000 → Vl σ1 m vi q → Pv vm sts1.length vi → Its σ1 m vm k1 cur1 → Frm σ1 m vm pl1 fr1 → fr1.length ≤ 10 → Ste σ1 m vm sts1 → pl1 ≤ 200 →
        wrk (nvl ns) (fbd fs) n (stk.take h ++ [q]) cur1 fr1 pl1 sts1 = some r →
        Hx (fX12_worked_25 N (wA σ1 (m + 22) h (nI vi)) m (nI (h + 1)) (nI fr1.length) (nI k1) (nI (k1 + cur1.length))) (Wpost σ m vm r) := by
      intro σ1 h vi q sts1 cur1 fr1 pl1 k1 hR1 hm1 hB1 hS1 hh hh2 hV hP hI1 hF1 hFl1 hE1 hpl1 hw1
      have w : rfM m [55] AW VW σ1 (wA σ1 (m + 22) h (nI vi)) := rfM.wA (by simp) (by omega)
      have w' : rfM m [] [22] nV σ1 (wA σ1 (m + 22) h (nI vi)) := rfM.wA (by simp) (by omega)
      have hlen : (stk.take h ++ [q]).length = h + 1 := by rw [List.length_append, List.length_take]; simp; omega
      have := ih N (wA σ1 (m + 22) h (nI vi)) (stk.take h ++ [q]) cur1 fr1 pl1 sts1 r k1 (by omega) hw1 ⟨hm1, hB1.keepM w' (by simp [Rnot]) (fun _ _ _ h => h), ⟨hS1.push hh hV hP, by omega⟩, hI1.keepM w' (by simp) (fun _ _ _ h => h), ⟨Frm.w (Or.inl rfl) (fun h => by omega) hF1, hFl1⟩, ?_, hpl1⟩
      · rw [hlen] at this
        refine this.mo ?_
        intro σ2 v h2
        exact h2.pre (hR1.tr w)
      · refine ⟨hE1.1, hE1.2.1, fun j s hj => ?_⟩
        obtain ⟨q1, vj, q2, q3, q4⟩ := hE1.2.2 j s hj
        exact ⟨by rw [sA_wA_b (by omega)]; exact q1, vj, by rw [sA_wA_b (by omega)]; exact q2, q3.keepM w' (fun h => h), q4⟩
    cases cur with
    | nil =>
      have hlk : ¬ (nI k < nI (k + ([] : List It).length)) := by
        rw [sm_lt (by omega) (by simp; omega)]
        simp
      have hek : nI k = nI (k + ([] : List It).length) := rfl
      rw [if_neg hlk]
      cases fr with
      | nil =>
        unfold wrk at hw
        cases h0 : stk[0]? with
        | none => rw [h0] at hw; cases hw
        | some q =>
          rw [h0] at hw
          cases hw
          obtain ⟨vi, q1, q2, q3⟩ := hS 0 q h0
          rw [if_pos (by decide)]
          (try simp (disch := first | assumption | ((repeat (first | apply MS_A | apply MS_I)) <;> assumption) | omega) only [sm_bind, sm_cb, sm_nm, lits, sm_add, sm_mul, sm_le, sm_lt, sm_eq, sm_div, sm_sub, mx_le, mx_lt, mx_eq, xm_le, xm_lt, xm_eq, iz_le, iz_lt, iz_eq, nb0, nb1, sA_wA_b, sA_wA_eq, Nat.zero_le, ↓reduceIte, not_true_eq_false, not_false_eq_true, eq_self, Nat.reduceEqDiff, rf_ck, rf_stack, ld_stack, st_stack, q1])
          exact Hx.ret (Or.inl ⟨rfl, rfM.rf, ⟨vi, rfl, q2, q3⟩, hE⟩)
      | cons f fr =>
        obtain ⟨rest, bt⟩ := f
        obtain ⟨⟨k1, a1, a2, a3⟩, ⟨a4, a5⟩, a6, a7⟩ := id hF
        have hfl : fr.length < 10 := by simp at hFl; omega
        unfold wrk at hw
        cases h0 : stk[stk.length - 1]? with
        | none => rw [h0] at hw; cases hw
        | some q =>
          rw [h0] at hw
          have hL : stk.length - 1 < stk.length := (List.getElem?_eq_some_iff.mp h0).1
          obtain ⟨vi, q1, q2, q3⟩ := hS _ q h0
          rw [if_neg (show ¬ (nI ((rest, bt) :: fr).length ≤ 0) by rw [show (0 : Int32) = nI 0 from rfl, sm_le (by simp; omega) (by omega)]; simp)]
          have e1 := sm_m1 fr.length
          unfold fX12_worked_36
          rw [if_pos hek]
          simp only [Option.bind] at hw
          by_cases h200 : sts.length = 200
          · rw [if_pos h200] at hw
            cases hw
            rw [h200] at hstn
            simp only [lits, List.length_cons]
            (try simp (disch := first | assumption | ((repeat (first | apply MS_A | apply MS_I)) <;> assumption) | omega) only [sm_bind, sm_cb, sm_nm, lits, sm_add, sm_mul, sm_le, sm_lt, sm_eq, sm_div, sm_sub, mx_le, mx_lt, mx_eq, xm_le, xm_lt, xm_eq, iz_le, iz_lt, iz_eq, nb0, nb1, sA_wA_b, sA_wA_eq, Nat.zero_le, ↓reduceIte, not_true_eq_false, not_false_eq_true, eq_self, Nat.reduceEqDiff, rf_ck, rf_stack, ld_stack, st_stack, rf_gI, rf_pI, rf_outer, ld_outer, st_outer, e1, q1, hstn, a6])
            refine Hx.bd (rf_refusedStep (c := 8) (pl := pl) hm rfM.rf) ?_
            intro σ1 v h
            exact Hx.ret (Wpost.rfd h (by omega))
          · rw [if_neg h200] at hw
            by_cases hbt : stk.length ≤ bt
            · rw [if_pos hbt] at hw; cases hw
            · rw [if_neg hbt] at hw
              have hs200 := hE.2.1
              have hvi : vi < 12600 := by unfold Pv at q3; omega
              simp only [lits, List.length_cons]
              (try simp (disch := first | assumption | ((repeat (first | apply MS_A | apply MS_I)) <;> assumption) | omega) only [sm_bind, sm_cb, sm_nm, lits, sm_add, sm_mul, sm_le, sm_lt, sm_eq, sm_div, sm_sub, mx_le, mx_lt, mx_eq, xm_le, xm_lt, xm_eq, iz_le, iz_lt, iz_eq, nb0, nb1, sA_wA_b, sA_wA_eq, Nat.zero_le, ↓reduceIte, not_true_eq_false, not_false_eq_true, eq_self, Nat.reduceEqDiff, rf_ck, rf_stack, ld_stack, st_stack, rf_gI, rf_pI, rf_outer, ld_outer, st_outer, rf_stepKind, ld_stepKind, st_stepKind, rf_stepValue, ld_stepValue, st_stepValue, rf_backAt, ld_backAt, st_backAt, rf_backEnd, ld_backEnd, st_backEnd, rf_bottom, ld_bottom, st_bottom, e1, q1, hstn, h200, a1, a2, a4, sI_wA_, sI_wI_eq])
              have w1 : rfM m [55] [23, 24] nV σ (wA σ (m + 23) sts.length (nI 9)) := rfM.wA (by simp) (by omega)
              have w2 : rfM m [55] [23, 24] nV (wA σ (m + 23) sts.length (nI 9)) (wA (wA σ (m + 23) sts.length (nI 9)) (m + 24) sts.length (nI vi)) := rfM.wA (by simp) (by omega)
              have w3 : rfM m [55] [23, 24] nV (wA (wA σ (m + 23) sts.length (nI 9)) (m + 24) sts.length (nI vi)) (wI (wA (wA σ (m + 23) sts.length (nI 9)) (m + 24) sts.length (nI vi)) (fid 16 55) m (nI (sts.length + 1))) := rfM.wI (by simp)
              have W := w1.tr (w2.tr w3)
              generalize hσ1 : wI (wA (wA σ (m + 23) sts.length (nI 9)) (m + 24) sts.length (nI vi)) (fid 16 55) m (nI (sts.length + 1)) = σ1 at W ⊢
              have hm1 := W.ms hm
              have b1 : sA σ1 (m + 26) fr.length = nI k1 := by rw [W.ar 26 (by simp)]; exact a1
              have b2 : sA σ1 (m + 27) fr.length = nI (k1 + rest.length) := by rw [W.ar 27 (by simp)]; exact a2
              have b4 : sA σ1 (m + 28) fr.length = nI bt := by rw [W.ar 28 (by simp)]; exact a4
              have hb1000 : bt < 1000 := by
                apply Classical.byContradiction
                intro h
                omega
              (try simp (disch := first | assumption | ((repeat (first | apply MS_A | apply MS_I)) <;> assumption) | omega) only [sm_bind, sm_cb, sm_nm, lits, sm_add, sm_mul, sm_le, sm_lt, sm_eq, sm_div, sm_sub, mx_le, mx_lt, mx_eq, xm_le, xm_lt, xm_eq, iz_le, iz_lt, iz_eq, nb0, nb1, sA_wA_b, sA_wA_eq, Nat.zero_le, ↓reduceIte, not_true_eq_false, not_false_eq_true, eq_self, Nat.reduceEqDiff, rf_ck, rf_stack, ld_stack, st_stack, rf_backAt, ld_backAt, st_backAt, rf_backEnd, ld_backEnd, st_backEnd, rf_bottom, ld_bottom, st_bottom, b1, b2, b4])
              refine push σ1 bt vi q (sts ++ [(9, q)]) rest fr pl k1 (W.mo (by simp) (fun _ h => absurd h id)) hm1 (hB.keepM W (by simp [Rnot]) (fun _ _ _ h => h)) ((hS.keepM W (by simp) (fun _ _ h => h)).mono (by simp)) (by omega) hb1000 (q2.keepM W (fun h => h)) (q3.mono (by simp)) (a3.keepM W (by simp) (fun _ _ _ h => h)) (Frm.keepM W (by simp) (fun _ _ _ h => h) a7) (by omega) ?_ hpl hw
              refine hE.app (by omega) W (fun _ _ h => h) ?_ ?_ ?_ (q2.keepM W (fun h => h)) (q3.mono (by omega)) ?_
              · rw [← hσ1]; exact sI_wI_eq
              · rw [← hσ1]
                show sA (wA (wA σ (m + 23) sts.length (nI 9)) (m + 24) sts.length (nI vi)) (m + 23) sts.length = _
                rw [sA_wA_b (by omega), sA_wA_eq]
              · rw [← hσ1]; exact sA_wA_eq
              · intro k9 hk9
                rw [← hσ1]
                constructor
                · show sA (wA (wA σ (m + 23) sts.length (nI 9)) (m + 24) sts.length (nI vi)) (m + 23) k9 = _
                  rw [sA_wA_b (by omega), sA_wA_j hk9]
                · show sA (wA (wA σ (m + 23) sts.length (nI 9)) (m + 24) sts.length (nI vi)) (m + 24) k9 = _
                  rw [sA_wA_j hk9, sA_wA_b (by omega)]
    | cons it cur =>
      obtain ⟨⟨⟨g0, g1, g2, g3, g4⟩, i1, i2, i3, i4, i5⟩, hIr⟩ := hI.hd
      have hIr1 := hIr.1
      have hlc : (it :: cur).length = cur.length + 1 := rfl
      rw [hlc] at hI1
      have hlk : nI k < nI (k + (it :: cur).length) := by
        rw [hlc, sm_lt (by omega) (by omega)]
        omega
      have hnk : ¬ (nI k = nI (k + (it :: cur).length)) := by
        rw [hlc, sm_eq (by omega) (by omega)]
        omega
      have hkl : k + (it :: cur).length = k + 1 + cur.length := by rw [hlc]; omega
      rw [if_pos hlk]
      unfold fX12_worked_36
      rw [if_neg hnk]
      have hplc : plc fr it pl ≤ 200 := by
        unfold plc
        split <;> assumption
      have hF' : Frm σ m vm (plc fr it pl) fr := by
        cases fr with
        | nil => trivial
        | cons f fr => exact hF
      -- the place is known
      have place : Hx (fX12_worked_177 (fX12_worked_25 N) σ m (nI stk.length) (nI fr.length) (nI k) (nI (k + (it :: cur).length)) (nI it.1) (nI (plc fr it pl))) (Wpost σ m vm r) → Hx ((gF σ 16 17 m).bind fun v2 => (ldI σ v2 (nI k)).bind fun v3 => if nI fr.length ≤ 0 then (gF σ 16 20 m).bind fun v5 => (ldI σ v5 (nI k)).bind fun v6 => fX12_worked_177 (fX12_worked_25 N) σ m (nI stk.length) (nI fr.length) (nI k) (nI (k + (it :: cur).length)) v3 v6 else (gF σ 16 54 m).bind fun v7 => (ldI σ v7 0).bind fun v8 => fX12_worked_177 (fX12_worked_25 N) σ m (nI stk.length) (nI fr.length) (nI k) (nI (k + (it :: cur).length)) v3 v8) (Wpost σ m vm r) := by
        intro h
        cases fr with
        | nil =>
          (try simp (disch := first | assumption | ((repeat (first | apply MS_A | apply MS_I)) <;> assumption) | omega) only [sm_bind, sm_cb, sm_nm, lits, sm_add, sm_mul, sm_le, sm_lt, sm_eq, sm_div, sm_sub, mx_le, mx_lt, mx_eq, xm_le, xm_lt, xm_eq, iz_le, iz_lt, iz_eq, nb0, nb1, sA_wA_b, sA_wA_eq, Nat.zero_le, ↓reduceIte, not_true_eq_false, not_false_eq_true, eq_self, Nat.reduceEqDiff, rf_ck, rf_item, ld_item, st_item, rf_where, ld_where, st_where, i1, i5, List.length_nil, Nat.le_refl])
          exact h
        | cons f fr =>
          have o0 := hF.out0 (by simp)
          have hn9 : ¬ ((f :: fr).length ≤ 0) := by simp
          (try simp (disch := first | assumption | ((repeat (first | apply MS_A | apply MS_I)) <;> assumption) | omega) only [sm_bind, sm_cb, sm_nm, lits, sm_add, sm_mul, sm_le, sm_lt, sm_eq, sm_div, sm_sub, mx_le, mx_lt, mx_eq, xm_le, xm_lt, xm_eq, iz_le, iz_lt, iz_eq, nb0, nb1, sA_wA_b, sA_wA_eq, Nat.zero_le, ↓reduceIte, not_true_eq_false, not_false_eq_true, eq_self, Nat.reduceEqDiff, rf_ck, rf_item, ld_item, st_item, rf_outer, ld_outer, st_outer, hn9, i1, o0])
          exact h
      apply place
      unfold wrk at hw
      generalize hplg : plc fr it pl = pl1 at *
      by_cases h990 : 990 ≤ stk.length
      · rw [if_pos h990] at hw; cases hw
      rw [if_neg h990] at hw
      have htk : stk.take stk.length = stk := List.take_length
      have push1 : ∀ (vi : Nat) (q : Qv), Vl σ m vi q → Pv vm sts.length vi → wrk (nvl ns) (fbd fs) n (stk ++ [q]) cur fr pl1 sts = some r → Hx (fX12_worked_374 (fX12_worked_25 N) σ m (nI stk.length) (nI fr.length) (nI k) (nI (k + (it :: cur).length)) (m + 22) (nI stk.length) (nI vi)) (Wpost σ m vm r) := by
        intro vi q hV hP hw1
        have := push σ stk.length vi q sts cur fr pl1 (k + 1) rfM.rf hm hB hS (by omega) (by omega) hV hP hIr hF' hFl hE hplc (by rw [htk]; exact hw1)
        unfold fX12_worked_374 fX12_worked_471
        rw [hkl]
        (try simp (disch := first | assumption | ((repeat (first | apply MS_A | apply MS_I)) <;> assumption) | omega) only [sm_bind, sm_cb, sm_nm, lits, sm_add, sm_mul, sm_le, sm_lt, sm_eq, sm_div, sm_sub, mx_le, mx_lt, mx_eq, xm_le, xm_lt, xm_eq, iz_le, iz_lt, iz_eq, nb0, nb1, sA_wA_b, sA_wA_eq, Nat.zero_le, ↓reduceIte, not_true_eq_false, not_false_eq_true, eq_self, Nat.reduceEqDiff, rf_ck, rf_stack, ld_stack, st_stack])
        exact this
      unfold fX12_worked_177
      by_cases hcall : it.1 = 33 ∧ known it.2.1 = 0
      · rw [if_pos hcall] at hw
        have i3' := i3 (by omega)
        have kn := rf_known (σ := σ) g2
        by_cases hd : 10 ≤ fr.length ∨ stk.length < it.2.2.1
        · rw [if_pos hd] at hw; cases hw
        rw [if_neg hd] at hw
        cases hfb : fbd fs it.2.1 with
        | none => rw [hfb] at hw; cases hw
        | some l =>
          rw [hfb] at hw
          simp only [Option.bind] at hw
          obtain ⟨t, e, f1, f2, f3, f4⟩ := fbd_some hfb
          have hk0 := hcall.2
          have h33 := hcall.1
          rw [hk0] at kn
          rw [hkl]
          (try simp (disch := first | assumption | ((repeat (first | apply MS_A | apply MS_I)) <;> assumption) | omega) only [sm_bind, sm_cb, sm_nm, lits, sm_add, sm_mul, sm_le, sm_lt, sm_eq, sm_div, sm_sub, mx_le, mx_lt, mx_eq, xm_le, xm_lt, xm_eq, iz_le, iz_lt, iz_eq, nb0, nb1, sA_wA_b, sA_wA_eq, Nat.zero_le, ↓reduceIte, not_true_eq_false, not_false_eq_true, eq_self, Nat.reduceEqDiff, rf_ck, rf_which, ld_which, st_which, rf_outer, ld_outer, st_outer, rf_backAt, ld_backAt, st_backAt, rf_backEnd, ld_backEnd, st_backEnd, rf_bottom, ld_bottom, st_bottom, rf_with, ld_with, st_with, h33, i3', kn, i4])
          have w1 : rfM m [55] [26, 27, 28, 29] nV σ (wA σ (m + 29) fr.length (nI pl1)) := rfM.wA (by simp) (by omega)
          have w2 : rfM m [55] [26, 27, 28, 29] nV (wA σ (m + 29) fr.length (nI pl1)) (wA (wA σ (m + 29) fr.length (nI pl1)) (m + 26) fr.length (nI (k + 1))) := rfM.wA (by simp) (by omega)
          have w3 : rfM m [55] [26, 27, 28, 29] nV (wA (wA σ (m + 29) fr.length (nI pl1)) (m + 26) fr.length (nI (k + 1))) (wA (wA (wA σ (m + 29) fr.length (nI pl1)) (m + 26) fr.length (nI (k + 1))) (m + 27) fr.length (nI (k + 1 + cur.length))) := rfM.wA (by simp) (by omega)
          have w4 : rfM m [55] [26, 27, 28, 29] nV (wA (wA (wA σ (m + 29) fr.length (nI pl1)) (m + 26) fr.length (nI (k + 1))) (m + 27) fr.length (nI (k + 1 + cur.length))) (wA (wA (wA (wA σ (m + 29) fr.length (nI pl1)) (m + 26) fr.length (nI (k + 1))) (m + 27) fr.length (nI (k + 1 + cur.length))) (m + 28) fr.length (nI (stk.length - it.2.2.1))) := rfM.wA (by simp) (by omega)
          have W := w1.tr (w2.tr (w3.tr w4))
          generalize hσ1 : wA (wA (wA (wA σ (m + 29) fr.length (nI pl1)) (m + 26) fr.length (nI (k + 1))) (m + 27) fr.length (nI (k + 1 + cur.length))) (m + 28) fr.length (nI (stk.length - it.2.2.1)) = σ1 at W ⊢
          have hm1 := W.ms hm
          have hB1 := hB.keepM W (by simp [Rnot]) (fun _ _ _ h => h)
          have th := rf_thingF hm1 g2 hB1
          have th' : iz (thn (some t) 20) = nI (20 + t) := (sm_iz _).symm
          rw [f1, th'] at th
          have i3'' : sA σ1 (m + 7) k = nI it.2.1 := by rw [W.ar 7 (by simp)]; exact i3'
          obtain ⟨c1, c2, d, c3, c4, c5, s, c6, c7, c8, c9⟩ := hB1.2.2 t e f2
          have ht10 : t < 10 := by
            have := (List.getElem?_eq_some_iff.mp f2).1
            have := hB1.lt
            omega
          (try simp (disch := first | assumption | ((repeat (first | apply MS_A | apply MS_I)) <;> assumption) | omega) only [sm_bind, sm_cb, sm_nm, lits, sm_add, sm_mul, sm_le, sm_lt, sm_eq, sm_div, sm_sub, mx_le, mx_lt, mx_eq, xm_le, xm_lt, xm_eq, iz_le, iz_lt, iz_eq, nb0, nb1, sA_wA_b, sA_wA_eq, Nat.zero_le, ↓reduceIte, not_true_eq_false, not_false_eq_true, eq_self, Nat.reduceEqDiff, rf_ck, rf_def, ld_def, st_def, rf_which, ld_which, st_which, rf_defStart, ld_defStart, st_defStart, rf_defEnd, ld_defEnd, st_defEnd, i3'', th, c3, c6, c7])
          rw [f4] at c9 ⊢
          have hFn : Frm σ1 m vm pl1 ((cur, stk.length - it.2.2.1) :: fr) := by
            have hF1 : Frm σ1 m vm pl1 fr := by
              rw [← hσ1]
              exact Frm.w (by omega) (fun _ => Nat.le_refl _) (Frm.w (by omega) (fun _ => Nat.le_refl _) (Frm.w (by omega) (fun _ => Nat.le_refl _) (Frm.w (by omega) (fun _ => Nat.le_refl _) hF')))
            refine ⟨⟨k + 1, ?_, ?_, hIr.keepM W (by simp) (fun _ _ _ h => h)⟩, ⟨?_, by omega⟩, ?_, hF1⟩
            · rw [← hσ1, sA_wA_b (by omega), sA_wA_b (by omega), sA_wA_eq]
            · rw [← hσ1, sA_wA_b (by omega), sA_wA_eq]
            · rw [← hσ1, sA_wA_eq]
            · rw [← hσ1, sA_wA_b (by omega), sA_wA_b (by omega), sA_wA_b (by omega), sA_wA_eq]
          have hE1 : Ste σ1 m vm sts := by
            refine ⟨by rw [← hσ1]; exact hE.1, hE.2.1, fun j s hj => ?_⟩
            obtain ⟨q1, vj, q2, q3, q4⟩ := hE.2.2 j s hj
            exact ⟨by rw [W.ar 23 (by simp)]; exact q1, vj, by rw [W.ar 24 (by simp)]; exact q2, q3.keepM W (fun h => h), q4⟩
          refine (ih N σ1 stk l ((cur, stk.length - it.2.2.1) :: fr) pl1 sts r s (by omega) hw ⟨hm1, hB1, ⟨hS.keepM W (by simp) (fun _ _ h => h), hSl⟩, c9, ⟨hFn, by simp; omega⟩, hE1, hplc⟩).mo ?_
          intro σ2 v h2
          exact h2.pre (W.mo (by simp) (fun _ h => absurd h id))
      · rw [if_neg hcall] at hw
        have to283 : Hx (fX12_worked_283 (fX12_worked_25 N) σ m (nI stk.length) (nI fr.length) (nI k) (nI (k + (it :: cur).length)) (nI it.1) (nI pl1)) (Wpost σ m vm r) → Hx (if nI it.1 = 33 then (gF σ 16 18 m).bind fun v2 => (ldI σ v2 (nI k)).bind fun v3 => cb (fX12_known σ v3) fun σ4 v5 => if v5 = 0 then (gF σ4 16 54 m).bind fun v7 => (stI σ4 v7 (nI fr.length) (nI pl1)).bind fun σ8 => (gF σ8 16 51 m).bind fun v9 => (stI σ8 v9 (nI fr.length) (nI k + 1)).bind fun σ10 => (gF σ10 16 52 m).bind fun v11 => (stI σ10 v11 (nI fr.length) (nI (k + (it :: cur).length))).bind fun σ12 => (gF σ12 16 53 m).bind fun v13 => (gF σ12 16 19 m).bind fun v14 => (ldI σ12 v14 (nI k)).bind fun v15 => (stI σ12 v13 (nI fr.length) (nI stk.length - v15)).bind fun σ16 => (gF σ16 16 38 m).bind fun v17 => (gF σ16 16 18 m).bind fun v18 => (ldI σ16 v18 (nI k)).bind fun v19 => (ckK σ16 17 m).bind fun _ => cb (fX12_thing σ16 m v19 1) fun σ20 v21 => (ldI σ20 v17 v21).bind fun v23 => nm (nI fr.length + 1) fun v24 => (gF σ20 16 22 m).bind fun v25 => (ldI σ20 v25 v23).bind fun v26 => (gF σ20 16 23 m).bind fun v27 => (ldI σ20 v27 v23).bind fun v28 => fX12_worked_25 N σ20 m (nI stk.length) v24 v26 v28 else fX12_worked_283 (fX12_worked_25 N) σ4 m (nI stk.length) (nI fr.length) (nI k) (nI (k + (it :: cur).length)) (nI it.1) (nI pl1) else fX12_worked_283 (fX12_worked_25 N) σ m (nI stk.length) (nI fr.length) (nI k) (nI (k + (it :: cur).length)) (nI it.1) (nI pl1)) (Wpost σ m vm r) := by
          intro h
          by_cases h33 : it.1 = 33
          · have hk0 : ¬ known it.2.1 = 0 := fun h0 => hcall ⟨h33, h0⟩
            have i3' := i3 (by omega)
            have kn := rf_known (σ := σ) g2
            have kb := known_b it.2.1
            rw [h33] at h ⊢
            (try simp (disch := first | assumption | ((repeat (first | apply MS_A | apply MS_I)) <;> assumption) | omega) only [sm_bind, sm_cb, sm_nm, lits, sm_add, sm_mul, sm_le, sm_lt, sm_eq, sm_div, sm_sub, mx_le, mx_lt, mx_eq, xm_le, xm_lt, xm_eq, iz_le, iz_lt, iz_eq, nb0, nb1, sA_wA_b, sA_wA_eq, Nat.zero_le, ↓reduceIte, not_true_eq_false, not_false_eq_true, eq_self, Nat.reduceEqDiff, rf_ck, rf_which, ld_which, st_which, i3', kn, hk0])
            exact h
          · rw [if_neg (show ¬ nI it.1 = 33 by rw [show (33 : Int32) = nI 33 from rfl, sm_eq (by omega) (by omega)]; exact h33)]
            exact h
        apply to283
        unfold fX12_worked_283
        by_cases h30 : it.1 = 30
        · rw [if_pos h30] at hw
          obtain ⟨vi, j1, j2⟩ := i2 h30
          have := push1 vi it.2.2.2.2 j2.2 (Or.inr ⟨j2.1.1, j2.1.2.1⟩) hw
          unfold fX12_worked_304
          rw [h30]
          (try simp (disch := first | assumption | ((repeat (first | apply MS_A | apply MS_I)) <;> assumption) | omega) only [sm_bind, sm_cb, sm_nm, lits, sm_add, sm_mul, sm_le, sm_lt, sm_eq, sm_div, sm_sub, mx_le, mx_lt, mx_eq, xm_le, xm_lt, xm_eq, iz_le, iz_lt, iz_eq, nb0, nb1, sA_wA_b, sA_wA_eq, Nat.zero_le, ↓reduceIte, not_true_eq_false, not_false_eq_true, eq_self, Nat.reduceEqDiff, rf_ck, rf_stack, ld_stack, st_stack, rf_which, ld_which, st_which, j1])
          exact this
        · rw [if_neg h30] at hw
          have i3' := i3 h30
          by_cases h31 : it.1 = 31
          · rw [if_pos h31] at hw
            cases hnv : nvl ns it.2.1 with
            | none => rw [hnv] at hw; cases hw
            | some q =>
              rw [hnv] at hw
              simp only [Option.bind] at hw
              obtain ⟨t, e, f1, f2, f3, f4⟩ := nvl_some hnv
              have th := rf_thingN hm g2 hB
              have th' : iz (thn (some t) 0) = nI t := by rw [sm_iz]; show iz ((0 + t : Nat) : Int) = _; rw [Nat.zero_add]
              rw [f1, th'] at th
              obtain ⟨_, _, _, vi, c5, c6⟩ := hB.2.1 t e f2
              have ht20 : t < 20 := by
                have := (List.getElem?_eq_some_iff.mp f2).1
                have := hB.lt
                omega
              rw [f4] at c6
              have := push1 vi q c6.2 (Or.inr ⟨c6.1.1, c6.1.2.1⟩) hw
              unfold fX12_worked_304
              rw [h31]
              (try simp (disch := first | assumption | ((repeat (first | apply MS_A | apply MS_I)) <;> assumption) | omega) only [sm_bind, sm_cb, sm_nm, lits, sm_add, sm_mul, sm_le, sm_lt, sm_eq, sm_div, sm_sub, mx_le, mx_lt, mx_eq, xm_le, xm_lt, xm_eq, iz_le, iz_lt, iz_eq, nb0, nb1, sA_wA_b, sA_wA_eq, Nat.zero_le, ↓reduceIte, not_true_eq_false, not_false_eq_true, eq_self, Nat.reduceEqDiff, rf_ck, rf_stack, ld_stack, st_stack, rf_which, ld_which, st_which, rf_valueOf, ld_valueOf, st_valueOf, i3', th, c5])
              exact this
          · rw [if_neg h31] at hw
            by_cases h32 : it.1 = 32
            · rw [if_pos h32] at hw
              cases fr with
              | nil => cases hw
              | cons f fr =>
                obtain ⟨rest, bt⟩ := f
                simp only at hw
                by_cases h10 : it.2.1 < 10
                · rw [if_pos h10] at hw
                  cases hq : stk[bt + it.2.1]? with
                  | none => rw [hq] at hw; cases hw
                  | some q =>
                    rw [hq] at hw
                    simp only [Option.bind] at hw
                    obtain ⟨vi, q1, q2, q3⟩ := hS _ q hq
                    have hbl := (List.getElem?_eq_some_iff.mp hq).1
                    obtain ⟨_, ⟨a4, a5⟩, _, _⟩ := id hF
                    have hfl : fr.length < 10 := by simp at hFl; omega
                    have := push1 vi q q2 q3 hw
                    unfold fX12_worked_304
                    rw [h32]
                    rw [List.length_cons] at this ⊢
                    (try simp (disch := first | assumption | ((repeat (first | apply MS_A | apply MS_I)) <;> assumption) | omega) only [sm_bind, sm_cb, sm_nm, lits, sm_add, sm_mul, sm_le, sm_lt, sm_eq, sm_div, sm_sub, mx_le, mx_lt, mx_eq, xm_le, xm_lt, xm_eq, iz_le, iz_lt, iz_eq, nb0, nb1, sA_wA_b, sA_wA_eq, Nat.zero_le, ↓reduceIte, not_true_eq_false, not_false_eq_true, eq_self, Nat.reduceEqDiff, rf_ck, rf_stack, ld_stack, st_stack, rf_which, ld_which, st_which, rf_bottom, ld_bottom, st_bottom, i3', a4, q1, Nat.add_sub_cancel])
                    exact this
                · rw [if_neg h10] at hw; cases hw
            · rw [if_neg h32] at hw
              by_cases hbad : stp it = 0 ∨ 20 < stp it ∨ stp it = 9 ∨ stk.length < arity (stp it)
              · rw [if_pos hbad] at hw; cases hw
              rw [if_neg hbad] at hw
              have har : arity (stp it) = 1 ∨ arity (stp it) = 2 := by
                by_cases h2 : two (stp it)
                · exact Or.inr (ar_pos h2)
                · exact Or.inl (ar_neg h2)
              cases hqa : stk[stk.length - arity (stp it)]? with
              | none => rw [hqa] at hw; cases hw
              | some a =>
                cases hqb : stk[stk.length - 1]? with
                | none => rw [hqa, hqb] at hw; cases hw
                | some b =>
                  rw [hqa, hqb] at hw
                  simp only [Option.bind] at hw
                  obtain ⟨va, a1, a2, a3⟩ := hS _ a hqa
                  obtain ⟨vb, b1, b2, b3⟩ := hS _ b hqb
                  have ht2 := rf_hasTwo (σ := σ) (st := stp it) (by omega)
                  have hs200 := hE.2.1
                  have hva : va < 12600 := by unfold Pv at a3; omega
                  have hvb : vb < 12600 := by unfold Pv at b3; omega
                  have dd := rf_does (pl := pl1) hm (st := stp it) ⟨by omega, by omega, by omega⟩ hva hvb a2 b2 hE.1 hE.2.1
                  have core : Hx (fX12_worked_403 (fX12_worked_25 N) σ m (nI stk.length) (nI fr.length) (nI k) (nI (k + (it :: cur).length)) (nI pl1) (nI (stp it))) (Wpost σ m vm r) := by
                    unfold fX12_worked_403
                    have c418 : Hx (fX12_worked_418 (fX12_worked_25 N) σ m (nI stk.length) (nI fr.length) (nI k) (nI (k + (it :: cur).length)) (nI pl1) (nI (stp it)) (nI (arity (stp it)))) (Wpost σ m vm r) := by
                      unfold fX12_worked_418
                      (try simp (disch := first | assumption | ((repeat (first | apply MS_A | apply MS_I)) <;> assumption) | omega) only [sm_bind, sm_cb, sm_nm, lits, sm_add, sm_mul, sm_le, sm_lt, sm_eq, sm_div, sm_sub, mx_le, mx_lt, mx_eq, xm_le, xm_lt, xm_eq, iz_le, iz_lt, iz_eq, nb0, nb1, sA_wA_b, sA_wA_eq, Nat.zero_le, ↓reduceIte, not_true_eq_false, not_false_eq_true, eq_self, Nat.reduceEqDiff, rf_ck, rf_stack, ld_stack, st_stack, a1, b1])
                      refine Hx.bd dd ?_
                      intro σ1 v hd
                      unfold Dop at hd
                      by_cases h200 : sts.length = 200
                      · rw [if_pos h200] at hd hw
                        cases hw
                        obtain ⟨rfl, _⟩ := id hd
                        rw [if_pos (by decide)]
                        exact Hx.ret (Wpost.rfd hd (by omega))
                      · rw [if_neg h200] at hd hw
                        by_cases hca : ca (stp it) a b ≠ 0
                        · rw [if_pos hca] at hd hw
                          cases hw
                          obtain ⟨rfl, _⟩ := id hd
                          rw [if_pos (by decide)]
                          exact Hx.ret (Wpost.rfd hd hca)
                        · rw [if_neg hca] at hd hw
                          by_cases hsm : ¬ qsm (wkq (stp it) a b)
                          · rw [if_pos hsm] at hd hw
                            cases hw
                            obtain ⟨rfl, _⟩ := id hd
                            rw [if_pos (by decide)]
                            exact Hx.ret (Wpost.rfd hd (by omega))
                          · rw [if_neg hsm] at hd hw
                            obtain ⟨rfl, hR1, hV1, h55, ⟨hk1, hk2⟩, ho⟩ := hd
                            have hm1 := hR1.ms hm
                            have hPn : ∀ i, Pv vm sts.length i → ¬ (i = sts.length) := fun i h1 h2 => by unfold Pv at h1; omega
                            have hKn : ∀ i, 600 ≤ i → i < vm → ¬ (i = sts.length) := fun i h1 _ h2 => by omega
                            rw [if_neg (show ¬ (nI sts.length = -nI 1) by
                              show ¬ (nI sts.length = iz (-1))
                              rw [mx_eq (by omega) (by omega) (by omega)]
                              omega)]
                            have hE1 : Ste σ1 m vm (sts ++ [(stp it, wkq (stp it) a b)]) := hE.app (by omega) hR1 hPn h55 hk1 hk2 hV1 (Or.inl (by omega)) ho
                            have hhl : stk.length - arity (stp it) < 1000 := by omega
                            unfold fX12_worked_471
                            rw [hkl]
                            (try simp (disch := first | assumption | ((repeat (first | apply MS_A | apply MS_I)) <;> assumption) | omega) only [sm_bind, sm_cb, sm_nm, lits, sm_add, sm_mul, sm_le, sm_lt, sm_eq, sm_div, sm_sub, mx_le, mx_lt, mx_eq, xm_le, xm_lt, xm_eq, iz_le, iz_lt, iz_eq, nb0, nb1, sA_wA_b, sA_wA_eq, Nat.zero_le, ↓reduceIte, not_true_eq_false, not_false_eq_true, eq_self, Nat.reduceEqDiff, rf_ck, rf_stack, ld_stack, st_stack])
                            exact push σ1 (stk.length - arity (stp it)) sts.length (wkq (stp it) a b) (sts ++ [(stp it, wkq (stp it) a b)]) cur fr pl1 (k + 1) (hR1.mo (by simp) (fun i h => by subst h; show sts.length < 200; omega)) hm1 (hB.keepM hR1 (by simp [Rnot]) hKn) ((hS.keepM hR1 (by simp) hPn).mono (by simp)) (by omega) hhl hV1 (Or.inl (by simp)) (hIr.keepM hR1 (by simp) hKn) (Frm.keepM hR1 (by simp) hKn hF') hFl hE1 hplc hw
                    rcases har with h | h
                    · rw [h] at ht2 c418
                      (try simp (disch := first | assumption | ((repeat (first | apply MS_A | apply MS_I)) <;> assumption) | omega) only [sm_bind, sm_cb, sm_nm, lits, sm_add, sm_mul, sm_le, sm_lt, sm_eq, sm_div, sm_sub, mx_le, mx_lt, mx_eq, xm_le, xm_lt, xm_eq, iz_le, iz_lt, iz_eq, nb0, nb1, sA_wA_b, sA_wA_eq, Nat.zero_le, ↓reduceIte, not_true_eq_false, not_false_eq_true, eq_self, Nat.reduceEqDiff, rf_ck, ht2])
                      exact c418
                    · rw [h] at ht2 c418
                      (try simp (disch := first | assumption | ((repeat (first | apply MS_A | apply MS_I)) <;> assumption) | omega) only [sm_bind, sm_cb, sm_nm, lits, sm_add, sm_mul, sm_le, sm_lt, sm_eq, sm_div, sm_sub, mx_le, mx_lt, mx_eq, xm_le, xm_lt, xm_eq, iz_le, iz_lt, iz_eq, nb0, nb1, sA_wA_b, sA_wA_eq, Nat.zero_le, ↓reduceIte, not_true_eq_false, not_false_eq_true, eq_self, Nat.reduceEqDiff, rf_ck, ht2])
                      exact c418
                  by_cases h33 : it.1 = 33
                  · have hsp : stp it = known it.2.1 := if_pos h33
                    have kn := rf_known (σ := σ) g2
                    rw [hsp] at core
                    rw [h33]
                    (try simp (disch := first | assumption | ((repeat (first | apply MS_A | apply MS_I)) <;> assumption) | omega) only [sm_bind, sm_cb, sm_nm, lits, sm_add, sm_mul, sm_le, sm_lt, sm_eq, sm_div, sm_sub, mx_le, mx_lt, mx_eq, xm_le, xm_lt, xm_eq, iz_le, iz_lt, iz_eq, nb0, nb1, sA_wA_b, sA_wA_eq, Nat.zero_le, ↓reduceIte, not_true_eq_false, not_false_eq_true, eq_self, Nat.reduceEqDiff, rf_ck, rf_which, ld_which, st_which, i3', kn])
                    exact core
                  · have hsp : stp it = it.1 := if_neg h33
                    rw [hsp] at core
                    (try simp (disch := first | assumption | ((repeat (first | apply MS_A | apply MS_I)) <;> assumption) | omega) only [sm_bind, sm_cb, sm_nm, lits, sm_add, sm_mul, sm_le, sm_lt, sm_eq, sm_div, sm_sub, mx_le, mx_lt, mx_eq, xm_le, xm_lt, xm_eq, iz_le, iz_lt, iz_eq, nb0, nb1, sA_wA_b, sA_wA_eq, Nat.zero_le, ↓reduceIte, not_true_eq_false, not_false_eq_true, eq_self, Nat.reduceEqDiff, rf_ck, h30, h31, h32, h33])
                    exact core
theorem rf_worked {m vm d n : Nat} {ns : List NE} {fs : List FE} {l : List It} {np : Nat} {r : Rs} {σ : St} (hvm : vm ≤ 12600) (hn : n < 4000000000) (hw : wrk (nvl ns) (fbd fs) n [] l [] 0 [] = some r) (hm : MS σ m) (hB : Rbk σ m vm ns fs) (hD : Dfn σ m vm d l np) :
    Hx (fX12_worked σ m (nI d)) (Wpost σ m vm r) := by
  obtain ⟨h0, h1, s, h2, h3, h4, h5⟩ := hD
  unfold fX12_worked
  (try simp (disch := first | assumption | ((repeat (first | apply MS_A | apply MS_I)) <;> assumption) | omega) only [sm_bind, sm_cb, sm_nm, lits, sm_add, sm_mul, sm_le, sm_lt, sm_eq, sm_div, sm_sub, mx_le, mx_lt, mx_eq, xm_le, xm_lt, xm_eq, iz_le, iz_lt, iz_eq, nb0, nb1, sA_wA_b, sA_wA_eq, Nat.zero_le, ↓reduceIte, not_true_eq_false, not_false_eq_true, eq_self, Nat.reduceEqDiff, rf_ck, rf_defStart, ld_defStart, st_defStart, rf_defEnd, ld_defEnd, st_defEnd, rf_gI, rf_pI, h2, h3])
  have w : rfM m [55] [] nV σ (wI σ (fid 16 55) m (nI 0)) := rfM.wI (by simp)
  refine (rf_worked_loop hvm n FU (wI σ (fid 16 55) m (nI 0)) [] l [] 0 [] r s (by unfold FU; omega) hw ⟨w.ms hm, hB.keepM w (by simp [Rnot]) (fun _ _ _ h => h), ⟨fun j q hj => (by simp at hj), by simp⟩, h5.keepM w (by simp) (fun _ _ _ h => h), ⟨trivial, by simp⟩, ⟨sI_wI_eq, by simp, fun j s hj => (by simp at hj)⟩, by omega⟩).mo ?_
  intro σ1 v h
  exact h.pre (w.mo (by simp) (fun _ h => absurd h id))
