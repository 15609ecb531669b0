/-! ===== the class' Machine: objection, valueAt, enter, leave ===== -/
theorem KSum.ac {σ : St} {x s : Nat} {l : List It} (h : KSum σ x s l) : ∃ ka oa pa ca na nn, (gF σ 13 0 s = some ka ∧ gF σ 13 1 s = some oa ∧ gF σ 13 2 s = some pa ∧ gF σ 13 3 s = some ca ∧ gF σ 13 4 s = some na) ∧ aln σ ka = some (nI l.length) ∧ aln σ na = some (nI nn) ∧ nn ≤ 200 ∧
    ∀ j it, l[j]? = some it → itb it ∧ ldI σ ka (nI j) = some (nI (ckd it)) ∧ ldI σ pa (nI j) = some (nI it.2.2.2.1) ∧ ldI σ ca (nI j) = some (nI it.2.2.1) ∧ (it.1 ≠ 30 → ldI σ oa (nI j) = some (nI it.2.1)) ∧ (it.1 = 30 → ∃ u, ldI σ oa (nI j) = some (nI u) ∧ u < nn ∧ ldQ σ 4 na (nI u) = some (sQ σ na u) ∧ KF σ x (sQ σ na u) it.2.2.2.2) := by
  obtain ⟨⟨h1, h2, h3⟩, ka, oa, pa, ca, na, nn, ⟨f1, f2, f3, f4, f5⟩, ⟨k1, k2, k3, k4, k5, k6⟩, hi⟩ := h
  refine ⟨ka, oa, pa, ca, na, nn, ⟨(sm_gF h2).trans (congrArg some f1), (sm_gF h2).trans (congrArg some f2), (sm_gF h2).trans (congrArg some f3), (sm_gF h2).trans (congrArg some f4), (sm_gF h2).trans (congrArg some f5)⟩, (sm_aln k1.2.1 ⟨by omega, by omega⟩).trans (by rw [k1.2.2.1]), (sm_aln k5.2.1 ⟨by omega, by omega⟩).trans (by rw [k5.2.2]), k6, fun j it hj => ?_⟩
  have hl := (List.getElem?_eq_some_iff.mp hj).1
  obtain ⟨g1, g2, g3, g4, g5, g6⟩ := hi j it hj
  refine ⟨g1, ?_, ?_, ?_, fun h30 => ?_, fun h30 => ?_⟩
  · rw [sm_ld k1.2.1 (by rw [k1.2.2.1]; exact hl) (by omega), g2]
  · rw [sm_ld k3.2.1 (by rw [k3.2.2.1]; exact hl) (by omega), g5]
  · rw [sm_ld k4.2.1 (by rw [k4.2.2.1]; exact hl) (by omega), g6]
  · rw [sm_ld k2.2.1 (by rw [k2.2.2.1]; exact hl) (by omega), g4 h30]
  · obtain ⟨u, w1, w2, w3⟩ := g3 h30
    refine ⟨u, ?_, w2, ldQ_ok (ti := 4) k5.2.1 (by rw [k5.2.2]; exact w2) (by omega), w3⟩
    rw [sm_ld k2.2.1 (by rw [k2.2.2.1]; exact hl) (by omega), w1]
/-- a place of the stack is read -/
theorem Mst.ld {σ : St} {x j : Nat} {stk : List Qv} {q : Qv} (h : Mst σ x stk) (hx : XS σ x) (hj : stk[j]? = some q) (hl : stk.length ≤ 1000) : ldQ σ 4 (x + 76) (nI j) = some (sQ σ (x + 76) j) := by
  have := (List.getElem?_eq_some_iff.mp hj).1
  exact ldQ_ok (ti := 4) (hx.k104 (Or.inl rfl : tMu 76)) (by rw [hx.nn 76 1000 (by decide)]; omega) (by omega)
theorem arity_b (st : Nat) : arity st = 1 ∨ arity st = 2 := by
  by_cases c : two st
  · rw [ar_pos c]; omega
  · rw [ar_neg c]; omega
theorem cm_objection {x st D : Nat} {a b : Qv} {stk : List Qv} {σ : St} (hx : XS σ x) (hM : Mst σ x stk) (h1 : sI σ (fid 6 1) (x + 75) = nI stk.length) (h6 : sI σ (fid 6 6) (x + 75) = nI D) (hD : D < 200) (hst : 1 ≤ st ∧ st ≤ 20 ∧ st ≠ 9) (hl : stk.length ≤ 1000) (har : arity st ≤ stk.length) (ha : stk[stk.length - arity st]? = some a) (hb : stk[stk.length - 1]? = some b) :
    fX2_objection σ (x + 75) (nI st) = some (σ, nI (if ca st a b = 7 then 0 else ca st a b)) := by
  obtain ⟨a1, a2, a3⟩ := hM _ _ ha
  obtain ⟨b1, b2, b3⟩ := hM _ _ hb
  have hab := arity_b st
  have sa := a3.sg
  have sb := b3.sg
  have zb : b.1 = 0 ↔ b.2.1 = 0 := b3.2.1
  have e0 : ∀ k : Nat, k < 100 → (nI st = nI k) = (st = k) := fun k hk => sm_eq (by omega) (by omega)
  apply hx_eq
  rw [n_fX2_objection, mI hx 6, h6]
  refine hx_bs (Hx.ce (sm_le (by omega) (by omega)) (fun c => by omega) (fun _ => ?_))
  simp only [mI hx 1, h1, sm_bind, sm_cb, cx_valuesOf (σ := σ) ⟨hst.2.1, hst.2.2⟩]
  refine Hx.ce (sm_le (by omega) (by omega)) (fun _ => ?_) (fun c => absurd har c)
  simp only [xf_6_0 hx, sm_bind, sm_sub har, sm_sub (show 1 ≤ stk.length by omega), hM.ld hx ha hl, hM.ld hx hb hl]
  have fa := fx_k a2.1
  have fb := fx_k b2.1
  have wa := cf_isWhole a2
  have wb := cf_isWhole b2
  have ga := fx_i a2.1
  have gb := fx_i b2.1
  rw [a2.2.1.2] at ga
  rw [b2.2.1.2] at gb
  generalize sQ σ (x + 76) (stk.length - arity st) = A at *
  generalize sQ σ (x + 76) (stk.length - 1) = B at *
  have h100 : (st = 4 ∨ st = 5) → Hx (fX2_objection_100 σ B) (fun σ' v' => σ' = σ ∧ v' = nI (if ca st a b = 7 then 0 else ca st a b)) := by
    intro h
    rw [n_fX2_objection_100, gb]
    refine hx_bs (Hx.ce (show (iz b.1 = nI 0) = (b.1 = 0) from by rw [show nI 0 = iz (0 : Int) from rfl, iz_eq (by omega) (by omega) (by omega) (by omega)]) (fun c => ?_) (fun c => ?_))
    · have e : ca st a b = 5 := by
        unfold ca
        rw [if_neg (by omega), if_neg (by omega), if_neg (by omega), if_pos ⟨h, c⟩]
      rw [e]
      exact Hx.ret ⟨rfl, rfl⟩
    · have e : ca st a b = 0 := by
        unfold ca
        rw [if_neg (by omega), if_neg (by omega), if_neg (by omega), if_neg (fun q => c q.2), if_neg (by omega), if_neg (by omega)]
      rw [e]
      exact Hx.ret ⟨rfl, rfl⟩
  refine Hx.ce (e0 _ (by omega)) (fun c => h100 (Or.inl c)) (fun c4 => ?_)
  refine Hx.ce (e0 _ (by omega)) (fun c => h100 (Or.inr c)) (fun c5 => ?_)
  refine Hx.ce (e0 _ (by omega)) (fun c6 => ?_) (fun c6 => ?_)
  · rw [fb]
    refine hx_bs ?_
    rw [wb]
    refine hx_cs (Hx.ce nb0 (fun c => ?_) (fun c => ?_))
    · have e : ca st a b = 6 := by
        unfold ca
        rw [if_pos ⟨c6, fun q => c q.1⟩]
      rw [e]
      exact Hx.ret ⟨rfl, rfl⟩
    · have c := Classical.not_not.mp c
      obtain ⟨l, m, w, hV⟩ := id b2.2.2.1
      have hV1 := hV.wk 1
      rw [bw1] at hV1
      have hw := hV.2.2.1
      have hm := hV.1.2.2.2.2
      rw [fx_n b2.1]
      refine hx_bs ?_
      rw [na_gI hV.1, hV.2.1.1]
      refine hx_bs (Hx.ce (sm_lt (by omega) (by omega)) (fun c2 => ?_) (fun c2 => ?_))
      · have e : ca st a b = 6 := by
          unfold ca
          rw [if_pos ⟨c6, fun q => by omega⟩]
        rw [e]
        exact Hx.ret ⟨rfl, rfl⟩
      · refine hx_bs ?_
        rw [fx_kn b2.1]
        refine hx_bs ?_
        rw [cn_limb b2.2.2.1 (by omega), bq_0, Nat.mod_eq_of_lt (by omega)]
        refine hx_cs (Hx.ce (sm_le (by omega) (by omega)) (fun c3 => ?_) (fun c3 => ?_))
        · have e1 : ca st a b = if a.1 = 0 ∧ b.1 < 0 then 5 else 0 := by
            unfold ca
            rw [if_neg (fun q => q.2 ⟨c, c3⟩), if_neg (by omega), if_neg (by omega), if_neg (by omega)]
            by_cases c9 : a.1 = 0 ∧ b.1 < 0
            · rw [if_pos ⟨c6, c9⟩, if_pos c9]
            · rw [if_neg (fun q => c9 q.2), if_neg (by omega), if_neg c9]
          rw [ga]
          refine hx_bs (Hx.ce (show (iz a.1 = nI 0) = (a.1 = 0) from by rw [show nI 0 = iz (0 : Int) from rfl, iz_eq (by omega) (by omega) (by omega) (by omega)]) (fun c7 => ?_) (fun c7 => ?_))
          · rw [gb]
            refine hx_bs (Hx.ce (show (nI 0 ≤ iz b.1) = (0 ≤ b.1) from by rw [show nI 0 = iz (0 : Int) from rfl, iz_le (by omega) (by omega) (by omega) (by omega)]) (fun c8 => ?_) (fun c8 => ?_))
            · have e : ca st a b = 0 := by rw [e1, if_neg (fun q => by omega)]
              rw [e]
              exact Hx.ret ⟨rfl, rfl⟩
            · have e : ca st a b = 5 := by rw [e1, if_pos ⟨c7, by omega⟩]
              rw [e]
              exact Hx.ret ⟨rfl, rfl⟩
          · have e : ca st a b = 0 := by rw [e1, if_neg (fun q => c7 q.1)]
            rw [e]
            exact Hx.ret ⟨rfl, rfl⟩
        · have e : ca st a b = 6 := by
            unfold ca
            rw [if_pos ⟨c6, fun q => c3 q.2⟩]
          rw [e]
          exact Hx.ret ⟨rfl, rfl⟩
  refine Hx.ce (e0 _ (by omega)) (fun c7 => ?_) (fun c7 => ?_)
  · rw [fa]
    refine hx_bs ?_
    rw [wa]
    refine hx_cs (Hx.ce nb0 (fun c => ?_) (fun c => ?_))
    · have e : ca st a b = 6 := by
        unfold ca
        rw [if_neg (by omega), if_pos ⟨c7, fun q => c q.1⟩]
      rw [e]
      exact Hx.ret ⟨rfl, rfl⟩
    · have c := Classical.not_not.mp c
      rw [ga]
      refine hx_bs (Hx.ce (show (iz a.1 < nI 0) = (a.1 < 0) from by rw [show nI 0 = iz (0 : Int) from rfl, iz_lt (by omega) (by omega) (by omega) (by omega)]) (fun c8 => ?_) (fun c8 => ?_))
      · have e : ca st a b = 6 := by
          unfold ca
          rw [if_neg (by omega), if_pos ⟨c7, fun q => by omega⟩]
        rw [e]
        exact Hx.ret ⟨rfl, rfl⟩
      · have e : ca st a b = if 28 < a.2.1 then 7 else 0 := by
          unfold ca
          rw [if_neg (by omega), if_neg (fun q => q.2 ⟨c, by omega⟩), if_neg (by omega), if_neg (by omega), if_neg (by omega)]
          by_cases c9 : 28 < a.2.1
          · rw [if_pos ⟨c7, c9⟩, if_pos c9]
          · rw [if_neg (fun q => c9 q.2), if_neg c9]
        rw [e]
        refine Hx.ret ⟨rfl, ?_⟩
        by_cases c9 : 28 < a.2.1
        · rw [if_pos c9, if_pos rfl]
        · rw [if_neg c9, if_neg (by omega)]
  have hz : (st ≠ 10 ∧ st ≠ 11) → ca st a b = 0 := by
    intro h
    unfold ca
    rw [if_neg (by omega), if_neg (by omega), if_neg (by omega), if_neg (by omega), if_neg (by omega), if_neg (by omega)]
  have h188 : (st = 10 ∨ st = 11) → Hx (fX2_objection_188 σ A B) (fun σ' v' => σ' = σ ∧ v' = nI (if ca st a b = 7 then 0 else ca st a b)) := by
    intro h
    rw [n_fX2_objection_188, fa]
    refine hx_bs ?_
    rw [wa]
    refine hx_cs (Hx.ce nb0 (fun c => ?_) (fun c => ?_))
    · have e : ca st a b = 6 := by
        unfold ca
        rw [if_neg (by omega), if_neg (by omega), if_pos ⟨h, fun q => c q.1⟩]
      rw [e]
      exact Hx.ret ⟨rfl, rfl⟩
    · have c := Classical.not_not.mp c
      rw [fb]
      refine hx_bs ?_
      rw [wb]
      refine hx_cs (Hx.ce nb0 (fun c2 => ?_) (fun c2 => ?_))
      · have e : ca st a b = 6 := by
          unfold ca
          rw [if_neg (by omega), if_neg (by omega), if_pos ⟨h, fun q => c2 q.2⟩]
        rw [e]
        exact Hx.ret ⟨rfl, rfl⟩
      · have c2 := Classical.not_not.mp c2
        have e : ca st a b = 0 := by
          unfold ca
          rw [if_neg (by omega), if_neg (by omega), if_neg (fun q => q.2 ⟨c, c2⟩), if_neg (by omega), if_neg (by omega), if_neg (by omega)]
        rw [e]
        exact Hx.ret ⟨rfl, rfl⟩
  refine Hx.ce (e0 _ (by omega)) (fun c8 => ?_) (fun c8 => ?_)
  · rw [hz (by omega)]
    exact Hx.ret ⟨rfl, rfl⟩
  refine Hx.ce (e0 _ (by omega)) (fun c9 => by omega) (fun c9 => ?_)
  refine Hx.ce (e0 _ (by omega)) (fun c10 => h188 (Or.inl c10)) (fun c10 => ?_)
  refine Hx.ce (e0 _ (by omega)) (fun c11 => h188 (Or.inr c11)) (fun c11 => ?_)
  rw [hz (by omega)]
  exact Hx.ret ⟨rfl, rfl⟩
theorem cm_objL {x D : Nat} {k : Int32} {σ : St} (hx : XS σ x) (h6 : sI σ (fid 6 6) (x + 75) = nI D) (hD : 200 ≤ D) (hD2 : D < 1000) : fX2_objection σ (x + 75) k = some (σ, nI 8) := by
  apply hx_eq
  rw [n_fX2_objection, mI hx 6, h6]
  exact hx_bs (Hx.ce (sm_le (by omega) (by omega)) (fun _ => Hx.ret ⟨rfl, rfl⟩) (fun c => absurd hD c))
/-- the values that items stand for -/
noncomputable def vlO (ns : List NE) (stk : List Qv) (fr : Frs) (it : It) : Option Qv := if it.1 = 30 then some it.2.2.2.2 else if it.1 = 31 then nvl ns it.2.1 else match fr with
  | [] => none
  | (_, bt) :: _ => if it.2.1 < 10 then stk[bt + it.2.1]? else none
theorem cm_valueAt {x b na fa s j : Nat} {ns : List NE} {fs : List FE} {fr : Frs} {stk : List Qv} {l : List It} {it : It} {q : Qv} {σ : St} (hx : XS σ x) (hQ : SQ σ x) (hB : KBk σ x b na fa ns fs) (hM : Mst σ x stk) (hC : FrC σ x fr) (hs : KSum σ x s l) (hj : l[j]? = some it) (hit : it.1 = 30 ∨ it.1 = 31 ∨ it.1 = 32) (h1 : sI σ (fid 6 1) (x + 75) = nI stk.length) (h5 : sI σ (fid 6 5) (x + 75) = nI fr.length) (hl : stk.length < 1000) (hv : vlO ns stk fr it = some q) (hfl : fr.length ≤ 10) :
    ∃ v, fX2_valueAt σ (x + 75) s (nI j) b = some (σ, v) ∧ FX σ v q.1 q.2.1 q.2.2 ∧ qok q ∧ (v = x + 80 ∨ x + 84 < v ∨ v = x + 3) ∧ ((∀ T i, tMu T → sQ σ (x + T) i ≠ v) ∨ ∃ i, i < stk.length ∧ v = sQ σ (x + 76) i ∧ v ≠ 0) := by
  obtain ⟨ka, oa, pa, ca', na', nn, ⟨f1, f2, f3, f4, f5⟩, al1, al2, hnn, hi⟩ := hs.ac
  obtain ⟨g1, g2, g3, g4, g5, g6⟩ := hi j it hj
  obtain ⟨b1, b2, b3, b4, b5⟩ := ob_f hB
  have hln := hB.1.2.2
  unfold vlO at hv
  have hfin : ∀ v, Hx (fX2_valueAt σ (x + 75) s (nI j) b) (fun σ' v' => σ' = σ ∧ v' = v) → fX2_valueAt σ (x + 75) s (nI j) b = some (σ, v) := fun v h => hx_eq h
  rcases hit with h | h | h
  · rw [if_pos h] at hv
    cases hv
    obtain ⟨u, w1, w2, w3, w4⟩ := g6 h
    refine ⟨sQ σ na' u, hfin _ ?_, w4.2.2.2, w4.2.2.1, Or.inr (by have := w4.1; omega), Or.inl w4.2.1⟩
    have ck : ckd it = 21 := by unfold ckd; rw [if_pos h]
    rw [ck] at g2
    rw [n_fX2_valueAt]
    simp only [f1, f2, w1, g2, sm_bind]
    refine hx_t ?_
    refine Hx.ce (sm_lt (by omega) (by omega)) (fun c => by omega) (fun _ => ?_)
    simp only [f5, al2, w3, sm_bind]
    refine Hx.ce (sm_le (by omega) (by omega)) (fun c => by omega) (fun _ => Hx.ret ⟨rfl, rfl⟩)
  · rw [if_neg (by omega), if_pos h] at hv
    obtain ⟨k, e, q1, q2, q3, q4⟩ := nvl_some hv
    have hk := (List.getElem?_eq_some_iff.mp q2).1
    have hT := hB.2.2.2.1 k e q2
    obtain ⟨t1, t2, t3, t4, t5, t6⟩ := hT.k
    have hKF : KF σ x (sF σ (fid 14 3) (sQ σ na k)) e.2.2 := hT.2.2.2.2
    rw [q4] at hKF
    refine ⟨_, hfin _ ?_, hKF.2.2.2, hKF.2.2.1, Or.inr (by have := hKF.1; omega), Or.inl hKF.2.1⟩
    have ck : ckd it = 22 := by unfold ckd; rw [if_neg (by omega), if_pos h]
    rw [ck] at g2
    rw [n_fX2_valueAt]
    simp only [f1, f2, g5 (by omega), g2, sm_bind]
    refine Hx.ce (sm_eq (by omega) (by omega)) (fun c => by omega) (fun _ => ?_)
    refine Hx.ce (sm_eq (by omega) (by omega)) (fun c => by omega) (fun _ => ?_)
    have hf := cb_findN hB g1.2.1
    rw [q1] at hf
    have e9 : iz (thn (some k) 0) = nI k := by
      rw [sm_iz]
      congr 1
      show ((0 + k : Nat) : Int) = k
      omega
    rw [e9] at hf
    have ht := cb_toldAt hB (show k < ns.length + fs.length by omega)
    rw [if_pos hk] at ht
    simp only [b5, hf, ht, sm_bind, sm_cb]
    refine Hx.cs (fun c => absurd c t6) (fun _ => ?_)
    rw [t4]
    exact hx_bs (Hx.ret ⟨rfl, rfl⟩)
  · rw [if_neg (by omega), if_neg (by omega)] at hv
    cases fr with
    | nil => cases hv
    | cons p fs' =>
      obtain ⟨r0, bt⟩ := p
      simp only at hv
      split at hv
      · rename_i h10
        obtain ⟨m1, m2, m3⟩ := hM _ _ hv
        have hil := (List.getElem?_eq_some_iff.mp hv).1
        obtain ⟨_, ⟨c1, c2, c3⟩, _⟩ := hC
        refine ⟨sQ σ (x + 76) (bt + it.2.1), hfin _ ?_, m2, m3, ?_, Or.inr ⟨_, hil, rfl, m1⟩⟩
        · have ck : ckd it = 23 := by unfold ckd; rw [if_neg (by omega), if_neg (by omega), if_pos h]
          rw [ck] at g2
          have k9 := hx.kd 79 100 (by decide)
          have l9 := hx.nn 79 11 (by decide)
          have e79 : ldI σ (x + 79) (nI (fs'.length + 1)) = some (nI bt) := (sm_ld k9 (by rw [l9]; omega) (by omega)).trans (congrArg some c1)
          have h5' : sI σ (fid 6 5) (x + 75) = nI (fs'.length + 1) := h5
          rw [n_fX2_valueAt]
          simp only [f1, f2, g5 (by omega), g2, sm_bind]
          refine Hx.ce (sm_eq (by omega) (by omega)) (fun c => by omega) (fun _ => ?_)
          refine hx_t ?_
          simp only [xf_6_4 hx, mI hx 5, h5', e79, sm_bind, sm_nm, sm_add]
          refine Hx.ce (sm_lt (by omega) (by omega)) (fun c => by omega) (fun _ => ?_)
          simp only [mI hx 1, h1, sm_bind]
          refine Hx.ce (sm_le (by omega) (by omega)) (fun c => by omega) (fun _ => ?_)
          simp only [xf_6_0 hx, hM.ld hx hv (by omega), sm_bind]
          exact Hx.ret ⟨rfl, rfl⟩
        · exact Or.inr (Or.inl (hQ.1 76 _ (Or.inl rfl) m1).1)
      · cases hv
