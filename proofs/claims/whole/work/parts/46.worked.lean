/-! ===== working, as a pure text: what both sides do, item by item ===== -/
abbrev Sts := List (Nat × Qv)
abbrev Rs := Nat × Nat × Qv × Sts
abbrev Frs := List (List It × Nat)
def plc (fs : Frs) (it : It) (pl : Nat) : Nat := match fs with
  | [] => it.2.2.2.1
  | _ :: _ => pl
def stp (it : It) : Nat := if it.1 = 33 then known it.2.1 else it.1
noncomputable def wrk (nv : Nat → Option Qv) (fb : Nat → Option (List It)) : Nat → List Qv → List It → Frs → Nat → Sts → Option Rs
  | 0, _, _, _, _, _ => none
  | _ + 1, stk, [], [], pl, sts => stk[0]?.map fun q => (0, pl, q, sts)
  | n + 1, stk, [], (r, bt) :: fs, pl, sts => stk[stk.length - 1]?.bind fun v =>
    if sts.length = 200 then some (8, pl, v, sts) else if stk.length ≤ bt then none else wrk nv fb n (stk.take bt ++ [v]) r fs pl (sts ++ [(9, v)])
  | n + 1, stk, it :: r, fs, pl, sts =>
    if 990 ≤ stk.length then none
    else if it.1 = 33 ∧ known it.2.1 = 0 then
      if 10 ≤ fs.length ∨ stk.length < it.2.2.1 then none else (fb it.2.1).bind fun l => wrk nv fb n stk l ((r, stk.length - it.2.2.1) :: fs) (plc fs it pl) sts
    else if it.1 = 30 then wrk nv fb n (stk ++ [it.2.2.2.2]) r fs (plc fs it pl) sts
    else if it.1 = 31 then (nv it.2.1).bind fun q => wrk nv fb n (stk ++ [q]) r fs (plc fs it pl) sts
    else if it.1 = 32 then match fs with
      | [] => none
      | (_, bt) :: _ => (if it.2.1 < 10 then stk[bt + it.2.1]? else none).bind fun q => wrk nv fb n (stk ++ [q]) r fs (plc fs it pl) sts
    else if stp it = 0 ∨ 20 < stp it ∨ stp it = 9 ∨ stk.length < arity (stp it) then none
    else stk[stk.length - arity (stp it)]?.bind fun a => stk[stk.length - 1]?.bind fun b =>
      if sts.length = 200 then some (8, plc fs it pl, a, sts)
      else if ca (stp it) a b ≠ 0 then some (ca (stp it) a b, plc fs it pl, a, sts)
      else if ¬ qsm (wkq (stp it) a b) then some (7, plc fs it pl, a, sts)
      else wrk nv fb n (stk.take (stk.length - arity (stp it)) ++ [wkq (stp it) a b]) r fs (plc fs it pl) (sts ++ [(stp it, wkq (stp it) a b)])
/-! ===== the reference: a refusal, a step ===== -/
def Rfd (σ : St) (m c pl : Nat) (σ' : St) (v : Int32) : Prop := v = iz (-1) ∧ rfM m [43, 44, 45, 46] [1, 2] nV σ σ' ∧ Fi σ' m 43 (nI c) ∧ Fi σ' m 44 (nI pl) ∧ Fi σ' m 45 (iz (-1)) ∧ Fi σ' m 46 (nI 0)
theorem rf_refuses {m c pl : Nat} {σ : St} (hm : MS σ m) : Hx (fX12_refuses σ m (nI c) (nI pl)) fun σ' v => v = nI 1 ∧ rfM m [43, 44, 45, 46] [] nV σ σ' ∧ Fi σ' m 43 (nI c) ∧ Fi σ' m 44 (nI pl) ∧ Fi σ' m 45 (iz (-1)) ∧ Fi σ' m 46 (nI 0) := by
  unfold fX12_refuses
  (try simp (disch := first | assumption | ((repeat (first | apply MS_A | apply MS_I)) <;> assumption) | omega) only [sm_bind, sm_cb, sm_nm, lits, sm_add, sm_mul, sm_le, sm_lt, sm_eq, sm_div, sm_sub, mx_le, mx_lt, mx_eq, xm_le, xm_lt, xm_eq, iz_le, iz_lt, iz_eq, nb0, nb1, sA_wA_b, sA_wA_eq, Nat.zero_le, ↓reduceIte, not_true_eq_false, not_false_eq_true, eq_self, Nat.reduceEqDiff, rf_ck, rf_gI, rf_pI])
  have em : (-nI 1 : Int32) = iz (-1) := rfl
  rw [em]
  refine Hx.ret ⟨rfl, (rfM.wI (by simp)).tr ((rfM.wI (by simp)).tr ((rfM.wI (by simp)).tr (rfM.wI (by simp)))), ?_, ?_, ?_, ?_⟩
  · exact (sI_wI_f (by decide)).trans ((sI_wI_f (by decide)).trans ((sI_wI_f (by decide)).trans sI_wI_eq))
  · exact (sI_wI_f (by decide)).trans ((sI_wI_f (by decide)).trans sI_wI_eq)
  · exact (sI_wI_f (by decide)).trans sI_wI_eq
  · exact sI_wI_eq
theorem rf_refusedStep {m c pl : Nat} {σ σ0 : St} (hm : MS σ m) (hR : rfM m [43, 44, 45, 46] [1, 2] nV σ0 σ) : Hx (fX12_refusedStep σ m (nI c) (nI pl)) (Rfd σ0 m c pl) := by
  unfold fX12_refusedStep
  (try simp (disch := first | assumption | ((repeat (first | apply MS_A | apply MS_I)) <;> assumption) | omega) only [sm_bind, sm_cb, sm_nm, lits, sm_add, sm_mul, sm_le, sm_lt, sm_eq, sm_div, sm_sub, mx_le, mx_lt, mx_eq, xm_le, xm_lt, xm_eq, iz_le, iz_lt, iz_eq, nb0, nb1, sA_wA_b, sA_wA_eq, Nat.zero_le, ↓reduceIte, not_true_eq_false, not_false_eq_true, eq_self, Nat.reduceEqDiff, rf_ck])
  refine Hx.bd (rf_refuses hm) ?_
  rintro σ1 v ⟨rfl, h1, h2⟩
  exact Hx.ret ⟨rfl, hR.tr (h1.mo (by simp) (fun _ h => h)), h2⟩
def Did (σ : St) (m st s : Nat) (Q : Qv) (σ' : St) (v : Int32) : Prop := v = nI s ∧ rfM m [55] [1, 2, 23, 24] (fun i => i = s) σ σ' ∧ Vl σ' m s Q ∧ Fi σ' m 55 (nI (s + 1)) ∧ (sA σ' (m + 23) s = nI st ∧ sA σ' (m + 24) s = nI s) ∧ ∀ k, k ≠ s → sA σ' (m + 23) k = sA σ (m + 23) k ∧ sA σ' (m + 24) k = sA σ (m + 24) k
/-- how a step ends -/
def Dop (σ : St) (m st s pl : Nat) (p q : Qv) (σ' : St) (v : Int32) : Prop := if s = 200 then Rfd σ m 8 pl σ' v else if ca st p q ≠ 0 then Rfd σ m (ca st p q) pl σ' v else if ¬ qsm (wkq st p q) then Rfd σ m 7 pl σ' v else Did σ m st s (wkq st p q) σ' v
theorem rf_does {m st i j s pl : Nat} {p q : Qv} {σ : St} (hm : MS σ m) (hst : 1 ≤ st ∧ st ≤ 20 ∧ st ≠ 9) (hi : i < 12600) (hj : j < 12600) (hp : Vl σ m i p) (hq : Vl σ m j q) (hs : Fi σ m 55 (nI s)) (hs2 : s ≤ 200) :
    Hx (fX12_does σ m (nI st) (nI i) (nI j) (nI pl)) (Dop σ m st s pl p q) := by
  have hs' : sI σ (fid 16 55) m = nI s := hs
  have hca : ca st p q < 100 := by
    unfold ca
    repeat' split
    all_goals omega
  have hC := rf_cause hm (by omega) hi hj hp hq (st := st)
  unfold fX12_does
  by_cases h200 : s = 200
  · (try simp (disch := first | assumption | ((repeat (first | apply MS_A | apply MS_I)) <;> assumption) | omega) only [sm_bind, sm_cb, sm_nm, lits, sm_add, sm_mul, sm_le, sm_lt, sm_eq, sm_div, sm_sub, mx_le, mx_lt, mx_eq, xm_le, xm_lt, xm_eq, iz_le, iz_lt, iz_eq, nb0, nb1, sA_wA_b, sA_wA_eq, Nat.zero_le, ↓reduceIte, not_true_eq_false, not_false_eq_true, eq_self, Nat.reduceEqDiff, rf_ck, rf_gI, rf_pI, hs', h200])
    refine Hx.bd (rf_refusedStep (c := 8) (pl := pl) hm rfM.rf) ?_
    intro σ1 v h
    refine Hx.ret ?_
    subst h200
    unfold Dop
    rw [if_pos rfl]
    exact h
  · by_cases hc0 : ca st p q = 0
    · (try simp (disch := first | assumption | ((repeat (first | apply MS_A | apply MS_I)) <;> assumption) | omega) only [sm_bind, sm_cb, sm_nm, lits, sm_add, sm_mul, sm_le, sm_lt, sm_eq, sm_div, sm_sub, mx_le, mx_lt, mx_eq, xm_le, xm_lt, xm_eq, iz_le, iz_lt, iz_eq, nb0, nb1, sA_wA_b, sA_wA_eq, Nat.zero_le, ↓reduceIte, not_true_eq_false, not_false_eq_true, eq_self, Nat.reduceEqDiff, rf_ck, rf_gI, rf_pI, hs', h200, hC, hc0])
      refine Hx.bd (rf_works hm hst hi hj hp hq hc0) ?_
      rintro σ1 v ⟨sg, x, y, rfl, hR, hX, hY, x9, y9, y0, hsg, hq1, hq2⟩
      have hm1 := hR.ms hm
      have t1 : sI σ1 (fid 16 55) m = nI s := hs.R hR
      (try simp (disch := first | assumption | ((repeat (first | apply MS_A | apply MS_I)) <;> assumption) | omega) only [sm_bind, sm_cb, sm_nm, lits, sm_add, sm_mul, sm_le, sm_lt, sm_eq, sm_div, sm_sub, mx_le, mx_lt, mx_eq, xm_le, xm_lt, xm_eq, iz_le, iz_lt, iz_eq, nb0, nb1, sA_wA_b, sA_wA_eq, Nat.zero_le, ↓reduceIte, not_true_eq_false, not_false_eq_true, eq_self, Nat.reduceEqDiff, rf_ck, rf_gI, rf_pI, t1, Nat.zero_add])
      refine Hx.bE (rf_lays (u := 17) hm1 (by omega) (by omega) x9 y9 y0 hsg hX hY) ?_
      rintro σ2 ⟨hR2, hV2⟩
      have hm2 := hR2.ms hm1
      have F12 : rfM m [] [1, 2] (fun j => j = s ∧ qsm (qmk sg x y)) σ σ2 := hR.M.tr hR2.M
      by_cases hsm : qsm (qmk sg x y)
      · have hQ : qsm (wkq st p q) := hq1.mp hsm
        have hV := hV2 hsm
        rw [hq2 hsm] at hV
        have t2 : sI σ2 (fid 16 55) m = nI s := hs.keep F12 (by simp)
        have hsT := eq_true hsm
        (try simp (disch := first | assumption | ((repeat (first | apply MS_A | apply MS_I)) <;> assumption) | omega) only [sm_bind, sm_cb, sm_nm, lits, sm_add, sm_mul, sm_le, sm_lt, sm_eq, sm_div, sm_sub, mx_le, mx_lt, mx_eq, xm_le, xm_lt, xm_eq, iz_le, iz_lt, iz_eq, nb0, nb1, sA_wA_b, sA_wA_eq, Nat.zero_le, ↓reduceIte, not_true_eq_false, not_false_eq_true, eq_self, Nat.reduceEqDiff, rf_ck, rf_gI, rf_pI, rf_stepKind, ld_stepKind, st_stepKind, rf_stepValue, ld_stepValue, st_stepValue, hsT, t2, Nat.zero_add, sI_wA_, sI_wI_eq, Nat.add_sub_cancel])
        have w1 : rfM m [55] [1, 2, 23, 24] (fun i => i = s) σ2 (wA σ2 (m + 23) s (nI st)) := rfM.wA (by simp) (by omega)
        have w2 : rfM m [55] [1, 2, 23, 24] (fun i => i = s) (wA σ2 (m + 23) s (nI st)) (wA (wA σ2 (m + 23) s (nI st)) (m + 24) s (nI s)) := rfM.wA (by simp) (by omega)
        have w3 : rfM m [55] [1, 2, 23, 24] (fun i => i = s) (wA (wA σ2 (m + 23) s (nI st)) (m + 24) s (nI s)) (wI (wA (wA σ2 (m + 23) s (nI st)) (m + 24) s (nI s)) (fid 16 55) m (nI (s + 1))) := rfM.wI (by simp)
        have W := w1.tr (w2.tr w3)
        refine Hx.ret ?_
        unfold Dop
        rw [if_neg h200, if_neg (fun h => h hc0), if_neg (fun h => h hQ)]
        refine ⟨rfl, (F12.mo (by simp) (fun i h => h.1)).tr W, ?_, sI_wI_eq, ⟨?_, ?_⟩, fun k hk => ⟨?_, ?_⟩⟩
        · refine ⟨hV.1, ?_, ?_, ?_⟩
          · show sA (wA (wA σ2 (m + 23) s (nI st)) (m + 24) s (nI s)) (m + 3) s = _
            rw [sA_wA_b (by omega), sA_wA_b (by omega)]; exact hV.2.1
          · intro k hk
            show sA (wA (wA σ2 (m + 23) s (nI st)) (m + 24) s (nI s)) (m + 4) _ = _
            rw [sA_wA_b (by omega), sA_wA_b (by omega)]; exact hV.2.2.1 k hk
          · intro k hk
            show sA (wA (wA σ2 (m + 23) s (nI st)) (m + 24) s (nI s)) (m + 4) _ = _
            rw [sA_wA_b (by omega), sA_wA_b (by omega)]; exact hV.2.2.2 k hk
        · show sA (wA (wA σ2 (m + 23) s (nI st)) (m + 24) s (nI s)) (m + 23) s = _
          rw [sA_wA_b (by omega), sA_wA_eq]
        · exact sA_wA_eq
        · show sA (wA (wA σ2 (m + 23) s (nI st)) (m + 24) s (nI s)) (m + 23) k = _
          rw [sA_wA_b (by omega), sA_wA_j hk, F12.ar 23 (by simp)]
        · show sA (wA (wA σ2 (m + 23) s (nI st)) (m + 24) s (nI s)) (m + 24) k = _
          rw [sA_wA_j hk, sA_wA_b (by omega), F12.ar 24 (by simp)]
      · have hQ : ¬ qsm (wkq st p q) := fun h => hsm (hq1.mpr h)
        have hsF := eq_false hsm
        (try simp (disch := first | assumption | ((repeat (first | apply MS_A | apply MS_I)) <;> assumption) | omega) only [sm_bind, sm_cb, sm_nm, lits, sm_add, sm_mul, sm_le, sm_lt, sm_eq, sm_div, sm_sub, mx_le, mx_lt, mx_eq, xm_le, xm_lt, xm_eq, iz_le, iz_lt, iz_eq, nb0, nb1, sA_wA_b, sA_wA_eq, Nat.zero_le, ↓reduceIte, not_true_eq_false, not_false_eq_true, eq_self, Nat.reduceEqDiff, rf_ck, rf_gI, rf_pI, hsF])
        refine Hx.bd (rf_refusedStep (c := 7) (pl := pl) hm2 (F12.mo (by simp) (fun i h => absurd h.2 hsm))) ?_
        intro σ3 v h
        refine Hx.ret ?_
        unfold Dop
        rw [if_neg h200, if_neg (fun h => h hc0), if_pos hQ]
        exact h
    · (try simp (disch := first | assumption | ((repeat (first | apply MS_A | apply MS_I)) <;> assumption) | omega) only [sm_bind, sm_cb, sm_nm, lits, sm_add, sm_mul, sm_le, sm_lt, sm_eq, sm_div, sm_sub, mx_le, mx_lt, mx_eq, xm_le, xm_lt, xm_eq, iz_le, iz_lt, iz_eq, nb0, nb1, sA_wA_b, sA_wA_eq, Nat.zero_le, ↓reduceIte, not_true_eq_false, not_false_eq_true, eq_self, Nat.reduceEqDiff, rf_ck, rf_gI, rf_pI, hs', h200, hC, hc0])
      refine Hx.bd (rf_refusedStep (c := ca st p q) (pl := pl) hm rfM.rf) ?_
      intro σ1 v h
      refine Hx.ret ?_
      unfold Dop
      rw [if_neg h200, if_pos hc0]
      exact h
/-! ===== the reference works something told ===== -/
/-- a value on the stack, or a step's: a step's own place, or one that stays -/
def Pv (vm n vi : Nat) : Prop := vi < n ∨ 600 ≤ vi ∧ vi < vm
def Stk (σ : St) (m vm n : Nat) (stk : List Qv) : Prop := ∀ j q, stk[j]? = some q → ∃ vi, sA σ (m + 22) j = nI vi ∧ Vl σ m vi q ∧ Pv vm n vi
def Ste (σ : St) (m vm : Nat) (sts : Sts) : Prop := Fi σ m 55 (nI sts.length) ∧ sts.length ≤ 200 ∧ ∀ j s, sts[j]? = some s → sA σ (m + 23) j = nI s.1 ∧ ∃ vi, sA σ (m + 24) j = nI vi ∧ Vl σ m vi s.2 ∧ Pv vm sts.length vi
def Frm (σ : St) (m vm pl : Nat) : Frs → Prop
  | [] => True
  | (r, bt) :: fs => (∃ k, sA σ (m + 26) fs.length = nI k ∧ sA σ (m + 27) fs.length = nI (k + r.length) ∧ Its σ m vm k r) ∧ (sA σ (m + 28) fs.length = nI bt ∧ bt ≤ 1000) ∧ sA σ (m + 29) fs.length = nI pl ∧ Frm σ m vm pl fs
theorem Frm.keepM {m vm pl : Nat} {F A : List Nat} {V : Nat → Prop} {σ σ' : St} (hR : rfM m F A V σ σ') (hA : (6 ∉ A ∧ 7 ∉ A ∧ 8 ∉ A ∧ 9 ∉ A) ∧ 26 ∉ A ∧ 27 ∉ A ∧ 28 ∉ A ∧ 29 ∉ A) (hv : ∀ i, 600 ≤ i → i < vm → ¬ V i) : ∀ {fs : Frs}, Frm σ m vm pl fs → Frm σ' m vm pl fs := by
  intro fs
  induction fs with
  | nil => intro _; trivial
  | cons f fs ih =>
    rintro ⟨⟨k, a1, a2, a3⟩, ⟨a4, a5⟩, a6, a7⟩
    refine ⟨⟨k, ?_, ?_, a3.keepM hR hA.1 hv⟩, ⟨?_, a5⟩, ?_, ih a7⟩
    · rw [hR.ar 26 ⟨hA.2.1, by omega, by omega⟩]; exact a1
    · rw [hR.ar 27 ⟨hA.2.2.1, by omega, by omega⟩]; exact a2
    · rw [hR.ar 28 ⟨hA.2.2.2.1, by omega, by omega⟩]; exact a4
    · rw [hR.ar 29 ⟨hA.2.2.2.2, by omega, by omega⟩]; exact a6
theorem Frm.len {σ : St} {m vm pl : Nat} : ∀ {fs : Frs}, Frm σ m vm pl fs → ∀ pl', fs = [] → Frm σ m vm pl' fs := by
  intro fs h pl' e
  subst e
  trivial
/-- values behind the stack's top, frames above the deepest may be written -/
theorem Frm.w {σ : St} {m vm pl a j : Nat} {v : Int32} (ha : a = m + 22 ∨ a = m + 23 ∨ a = m + 24 ∨ ((a = m + 26 ∨ a = m + 27 ∨ a = m + 28 ∨ a = m + 29))) : ∀ {fs : Frs}, (a = m + 26 ∨ a = m + 27 ∨ a = m + 28 ∨ a = m + 29 → fs.length ≤ j) → Frm σ m vm pl fs → Frm (wA σ a j v) m vm pl fs := by
  have hV : ∀ vi q, Vl σ m vi q → Vl (wA σ a j v) m vi q := by
    rintro vi q ⟨b1, b2, b3, b4⟩
    refine ⟨b1, ?_, fun k hk => ?_, fun k hk => ?_⟩
    · rw [sA_wA_b (by omega)]; exact b2
    · rw [sA_wA_b (by omega)]; exact b3 k hk
    · rw [sA_wA_b (by omega)]; exact b4 k hk
  have hI : ∀ k l, Its σ m vm k l → Its (wA σ a j v) m vm k l := by
    rintro k l ⟨b1, b2⟩
    refine ⟨b1, fun i it e => ?_⟩
    obtain ⟨c0, c1, c2, c3, c4, c5⟩ := b2 i it e
    unfold Itm
    rw [sA_wA_b (show m + 6 ≠ a by omega), sA_wA_b (show m + 7 ≠ a by omega), sA_wA_b (show m + 8 ≠ a by omega), sA_wA_b (show m + 9 ≠ a by omega)]
    refine ⟨c0, c1, fun h => ?_, c3, c4, c5⟩
    obtain ⟨vi, q1, q2, q3⟩ := c2 h
    exact ⟨vi, q1, q2, hV _ _ q3⟩
  intro fs
  induction fs with
  | nil => intro _ _; trivial
  | cons f fs ih =>
    rintro hl ⟨⟨k, a1, a2, a3⟩, ⟨a4, a5⟩, a6, a7⟩
    have hl' : a = m + 26 ∨ a = m + 27 ∨ a = m + 28 ∨ a = m + 29 → fs.length < j := fun h => by have := hl h; simp at this; omega
    have hs : ∀ b, (b = m + 26 ∨ b = m + 27 ∨ b = m + 28 ∨ b = m + 29) → sA (wA σ a j v) b fs.length = sA σ b fs.length := by
      intro b hb
      by_cases e : b = a
      · subst e
        exact sA_wA_j (by have := hl' hb; omega)
      · rw [sA_wA_b e]
    refine ⟨⟨k, ?_, ?_, hI _ _ a3⟩, ⟨?_, a5⟩, ?_, ih (fun h => by have := hl' h; omega) a7⟩
    · rw [hs _ (by omega)]; exact a1
    · rw [hs _ (by omega)]; exact a2
    · rw [hs _ (by omega)]; exact a4
    · rw [hs _ (by omega)]; exact a6
