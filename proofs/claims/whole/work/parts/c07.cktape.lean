/-! ===== calls of the one that was built: append, digits, digit ===== -/
def LyF (x : Nat) (σ σ' : St) : Prop := cW x (s2 x (x + 1)) 0 0 σ σ' ∧ xI [fid 15 1] x σ σ'
theorem LyF.tr {x : Nat} {σ σ1 σ2 : St} (h1 : LyF x σ σ1) (h2 : LyF x σ1 σ2) : LyF x σ σ2 := ⟨h1.1.tr0 h2.1 (fun _ _ h => h), fun f hf => (h2.2.1 f hf).trans (h1.2.1 f hf), fun f => (h2.2.2 f).trans (h1.2.2 f)⟩
theorem cl_lay_st {n s x : Nat} {t : List Nat} {σ : St} {v : Int32} {P : St → Unit → Prop} (hs : s = 0 ∨ s = 8 ∨ s = 16 ∨ s = 24) (hp : HP (PX x) σ) (hx : XS σ x) (T : KTp σ x t) (hr : t.length + (byL v s).length ≤ 200) (hk : ∀ σ', LyF x σ σ' → KTp σ' x (t ++ byL v s) → Hx (fX11_lay_3 n σ' x v (nI s + iz (-8))) P) : Hx (fX11_lay_3 (n + 1) σ x v (nI s)) P := by
  have hb := byt_b v s
  have k0 : sK σ x = 15 + 1 := hx.kd 0 16 (by decide)
  have k1 : sK σ (x + 1) = 100 := hx.kd 1 100 (by decide)
  have hN : sN σ (x + 1) = 200 := hx.nn 1 200 (by decide)
  have eF : gF σ 15 0 x = some (x + 1) := hx.gf 15 0 0 1 (by decide) (by decide)
  rw [n_fX11_lay_3]
  refine Hx.ce (sm_lt (by omega) (by omega)) (fun c => absurd c (by omega)) (fun _ => ?_)
  rw [byt_c v hs]
  refine hx_nm ?_
  refine Hx.ce (sm_eq (by omega) (by omega)) (fun c => ?_) (fun c => ?_)
  · rw [n_fX11_lay_51]
    refine hx_nm ?_
    refine hk σ ⟨cW.rf hp, fun f _ => rfl, fun f => rfl⟩ ?_
    unfold byL
    rw [if_pos c, List.append_nil]
    exact T
  · have eb : byL v s = [byt v s] := if_neg c
    rw [eb, List.length_singleton] at hr
    have eI : gI σ 15 1 x = some (nI t.length) := (sm_gI k0).trans (congrArg some T.1)
    rw [eI]
    refine hx_bs ?_
    rw [eF]
    refine hx_bs ?_
    rw [sm_aln k1 (by omega), hN]
    refine hx_bs ?_
    refine Hx.ce (sm_le (by omega) (by omega)) (fun c => absurd c (by omega)) (fun _ => ?_)
    refine hx_bs ?_
    refine hx_bs ?_
    rw [sm_st k1 (by omega) (by omega)]
    refine hx_bs ?_
    rw [gI_wA, eI]
    refine hx_bs ?_
    rw [sm_add, sm_pI (σ := wA σ (x + 1) t.length (nI (byt v s))) k0]
    refine hx_bs ?_
    rw [n_fX11_lay_51]
    refine hx_nm ?_
    have w1 := cWa (j := t.length) (v := nI (byt v s)) hp k1 (hx.2.2.2.2 1 (by decide))
    refine hk _ ⟨(w1.mo (S' := s2 x (x + 1)) (fun r _ hr => Or.inr hr) (Nat.le_refl _) (Nat.le_refl _)).tr0 (cWi w1.hp (by show sK σ x ≠ 8; omega) (by show sK σ x ≠ 100; omega)) (fun r _ hr => Or.inl hr), fun f hf => ?_, fun f => rfl⟩ ?_
    · simp only [List.mem_cons, List.not_mem_nil, or_false] at hf
      exact sI_wI_f hf
    · rw [eb]
      refine ⟨?_, ?_, ?_, ?_⟩
      · rw [sI_wI_eq, List.length_append, List.length_singleton]
      · rw [List.length_append, List.length_singleton]; exact hr
      · intro i b hi
        show sA (wA σ (x + 1) t.length (nI (byt v s))) (x + 1) i = nI b
        by_cases c2 : i < t.length
        · rw [List.getElem?_append_left c2] at hi
          rw [sA_wA_j (by omega)]
          exact T.2.2.1 i b hi
        · rw [List.getElem?_append_right (by omega)] at hi
          have hl := (List.getElem?_eq_some_iff.mp hi).1
          rw [List.length_singleton] at hl
          have e : i = t.length := by omega
          subst e
          rw [Nat.sub_self] at hi
          have hi : some (byt v s) = some b := hi
          cases hi
          exact sA_wA_eq
      · intro b hb2
        rcases List.mem_append.mp hb2 with q | q
        · exact T.2.2.2 b q
        · rw [List.mem_singleton] at q
          subst q
          exact ⟨by omega, hb⟩
theorem cl_lay {x : Nat} {t : List Nat} {σ : St} {v : Int32} (hp : HP (PX x) σ) (hx : XS σ x) (T : KTp σ x t) (hr : t.length + (lys v).length ≤ 200) : Hx (fX11_lay σ x v) (fun σ' _ => LyF x σ σ' ∧ KTp σ' x (t ++ lys v)) := by
  have hll := lys_le v
  have e1 : nI 24 + iz (-8) = nI 16 := by decide
  have e2 : nI 16 + iz (-8) = nI 8 := by decide
  have e3 : nI 8 + iz (-8) = nI 0 := by decide
  rw [n_fX11_lay]
  refine cl_lay_st (n := FU - 1) (Or.inr (Or.inr (Or.inr rfl))) hp hx T (by omega) (fun σ1 f1 T1 => ?_)
  rw [e1]
  refine cl_lay_st (n := FU - 2) (Or.inr (Or.inr (Or.inl rfl))) f1.1.hp (hx.kW f1.1) T1 (by rw [List.length_append]; omega) (fun σ2 f2 T2 => ?_)
  have f2 := f1.tr f2
  rw [e2]
  refine cl_lay_st (n := FU - 3) (Or.inr (Or.inl rfl)) f2.1.hp (hx.kW f2.1) T2 (by rw [List.length_append, List.length_append]; omega) (fun σ3 f3 T3 => ?_)
  have f3 := f2.tr f3
  rw [e3]
  refine cl_lay_st (n := FU - 4) (Or.inl rfl) f3.1.hp (hx.kW f3.1) T3 (by rw [List.length_append, List.length_append, List.length_append]; omega) (fun σ4 f4 T4 => ?_)
  have f4 := f3.tr f4
  show Hx (fX11_lay_3 ((FU - 5) + 1) σ4 x v (nI 0 + iz (-8))) _
  rw [n_fX11_lay_3, if_pos (by decide)]
  refine Hx.ret ⟨f4, ?_⟩
  rw [lys_by, ← List.append_assoc, ← List.append_assoc, ← List.append_assoc]
  exact T4
theorem cl_by_st {n c s : Nat} {σ : St} {v : Int32} (hs : s = 0 ∨ s = 8 ∨ s = 16 ∨ s = 24) : fX11_bytesIn_5 (n + 1) σ v (nI c) (nI s) = fX11_bytesIn_5 n σ v (nI (c + (byL v s).length)) (nI s + iz (-8)) := by
  have hb := byt_b v s
  rw [n_fX11_bytesIn_5, if_neg (by rw [sm_lt (by omega) (by omega)]; omega), byt_c v hs]
  unfold byL
  by_cases h : byt v s = 0
  · rw [if_pos (by rw [h]), if_pos h, n_fX11_bytesIn_22]
    rfl
  · rw [if_neg (by rw [sm_eq (by omega) (by omega)]; exact h), if_neg h, sm_add]
    rfl
theorem cl_bytesIn (σ : St) (v : Int32) : fX11_bytesIn σ v = some (σ, nI (lys v).length) := by
  have hll := lys_le v
  have e1 : nI 24 + iz (-8) = nI 16 := by decide
  have e2 : nI 16 + iz (-8) = nI 8 := by decide
  have e3 : nI 8 + iz (-8) = nI 0 := by decide
  rw [n_fX11_bytesIn]
  show fX11_bytesIn_5 ((FU - 5) + 1 + 1 + 1 + 1 + 1) σ v (nI 0) (nI 24) = _
  rw [cl_by_st (Or.inr (Or.inr (Or.inr rfl))), e1, cl_by_st (Or.inr (Or.inr (Or.inl rfl))), e2, cl_by_st (Or.inr (Or.inl rfl)), e3, cl_by_st (Or.inl rfl), n_fX11_bytesIn_5, if_pos (by decide)]
  congr 3
  omega
/-- the tape is another now -/
theorem KI.tp {σ σ' : St} {x o : Nat} {s : Kst} {t : List Nat} (h : KI σ x o s) (hF : LyF x σ σ') (hT : KTp σ' x t) : KI σ' x o (t, s.2) ∧ cO x 0 0 σ σ' := by
  have hx := h.1.2.1
  have hS : ∀ r, s2 x (x + 1) r → r = x ∨ r = x + 1 := fun r hr => hr
  have hM : cM x (s2 x (x + 1)) 0 0 σ σ' := hF.1.toM hx (fun T hT hs => by have := hS _ hs; rcases hT with g | g | g <;> omega)
  have hQ' := h.1.2.2.2.2.st hF.1 hx (fun r hr => by have := hS _ hr; omega)
  have hO : cO x 0 0 σ σ' := hM.O (Or.inr h.2.2.2.1.1.1) (fun r hr => by
    rcases hS r hr with q | q
    · exact Or.inr (Or.inl q)
    · exact Or.inr (Or.inr (Or.inl q)))
  obtain ⟨h0, ⟨t1, t2, t3⟩, ⟨a1, a2, a3, a4⟩, ⟨p1, p2⟩, hh, w, wp, hw⟩ := h
  have ho := p1.1
  have hS9 : ∀ r, s2 x (x + 1) r → sScr σ x o r ∨ r = x ∨ r = x + 1 ∨ r = x + 2 ∨ r = x + 8 ∨ r = x + 9 ∨ r = x + 17 := fun r hr => by
    rcases hS r hr with h | h
    · exact Or.inr (Or.inl h)
    · exact Or.inr (Or.inr (Or.inl h))
  obtain ⟨g0, hB⟩ := h0.scr ho hM hQ' hS9
  obtain ⟨hp, hx, hk, ht, hQ⟩ := h0
  have hc := hF.1
  have hI := hF.2
  have low : ∀ r, r ≠ x → r ≠ x + 1 → ¬ s2 x (x + 1) r := fun r h1 h2 hs => by
    rcases hS r hs with q | q
    · exact h1 q
    · exact h2 q
  refine ⟨⟨g0, ⟨hT, (hI.1 _ (by decide)).trans t2, t3.kW hc hx (fun f hf => hI.1 f (by
      revert f
      decide)) (low _ (by omega) (by omega))⟩, ⟨?_, a2.kW hc hx hB hQ (low _ (by omega) (by omega)), a3.kW hc (low _ (by omega) (by omega)) (fun hs => ?_), ?_⟩, ⟨⟨ho, (hI.2 _).trans p1.2.1, (hI.2 _).trans p1.2.2⟩, p2.scr hx hQ ho hM hS9⟩, hh.kW2 hc hx hB hQ (hI.1 _ (by decide)) (hI.1 _ (by decide)) (low _ (by omega) (by omega)), w, wp, hw.kW hc hx (low _ (by omega) (by omega))⟩, hO⟩
  · unfold KAn
    rw [hI.2]
    exact KF.kB a1 hB hQ
  · have := hS _ hs
    rcases a4 with e | e <;> omega
  · have k2 := a3.1
    rw [(hc.sam (a := x + 9) (by omega) (Or.inl (by omega)) (low _ (by omega) (by omega))).2.1]
    exact a4
theorem ki_append {σ : St} {x o : Nat} {s : Kst} {a b d e g : Int32} (h : KI σ x o s) : Hx (fX11_append σ x a b d e g) (KO x 0 0 (if (apT s.1 a b d e g).length ≤ 200 then (apT s.1 a b d e g, s.2) else s) (if (apT s.1 a b d e g).length ≤ 200 then none else some "java/lang/IllegalStateException") (apT s.1 a b d e g).length σ) := by
  have la := lys_len a
  have lb := lys_len b
  have ld := lys_len d
  have le := lys_len e
  have lg := lys_len g
  have hal := apT_len s.1 a b d e g
  obtain ⟨hp, hx, _, _, hQ⟩ := id h.1
  have k0 : sK σ x = 15 + 1 := hx.kd 0 16 (by decide)
  have T := h.2.1.1
  have htl := T.2.1
  rw [n_fX11_append, (sm_gI k0).trans (congrArg some T.1)]
  refine hx_bs ?_
  rw [cl_bytesIn]
  refine hx_cs ?_
  rw [cl_bytesIn]
  refine hx_cs ?_
  rw [cl_bytesIn]
  refine hx_cs ?_
  rw [cl_bytesIn]
  refine hx_cs ?_
  rw [cl_bytesIn]
  refine hx_cs ?_
  rw [sm_add, sm_add, sm_add, sm_add, sm_add]
  refine Hx.ce (sm_le (by omega) (by omega)) (fun c => ?_) (fun c => ?_)
  · rw [if_pos (by omega), if_pos (by omega), hx.k0 |> sm_ckK]
    refine hx_bs (Hx.bd (cl_lay hp hx T (by omega)) (fun σ1 _ q1 => ?_))
    obtain ⟨f1, T1⟩ := q1
    rw [sm_ckK (hx.kW f1.1).k0]
    refine hx_bs (Hx.bd (cl_lay f1.1.hp (hx.kW f1.1) T1 (by rw [List.length_append]; omega)) (fun σ2 _ q2 => ?_))
    obtain ⟨f2, T2⟩ := q2
    have f2 := f1.tr f2
    rw [sm_ckK (hx.kW f2.1).k0]
    refine hx_bs (Hx.bd (cl_lay f2.1.hp (hx.kW f2.1) T2 (by rw [List.length_append, List.length_append]; omega)) (fun σ3 _ q3 => ?_))
    obtain ⟨f3, T3⟩ := q3
    have f3 := f2.tr f3
    rw [sm_ckK (hx.kW f3.1).k0]
    refine hx_bs (Hx.bd (cl_lay f3.1.hp (hx.kW f3.1) T3 (by rw [List.length_append, List.length_append, List.length_append]; omega)) (fun σ4 _ q4 => ?_))
    obtain ⟨f4, T4⟩ := q4
    have f4 := f3.tr f4
    rw [sm_ckK (hx.kW f4.1).k0]
    refine hx_bs (Hx.bd (cl_lay f4.1.hp (hx.kW f4.1) T4 (by rw [List.length_append, List.length_append, List.length_append, List.length_append]; omega)) (fun σ5 _ q5 => ?_))
    obtain ⟨f5, T5⟩ := q5
    have f5 := f4.tr f5
    have T5 : KTp σ5 x (apT s.1 a b d e g) := T5
    rw [(sm_gI (ci := 15) (hx.kW f5.1).k0).trans (congrArg some T5.1)]
    refine hx_bs ?_
    obtain ⟨hk, hO⟩ := h.tp f5 T5
    exact Hx.ret ⟨by rw [sm_iz], ⟨o, hk⟩, hO⟩
  · rw [if_neg (by omega), if_neg (by omega)]
    exact Hx.ret (KO.bad h)
theorem cx_part {σ : St} {x : Nat} {b : Int32} {q : Qv} (hx : XS σ x) (h : KAn σ x q) : ∃ a, fX11_partOfAnswer σ x b = some (σ, a) ∧ Nt σ a (if b = nI 0 then q.2.1 else q.2.2) := by
  have k0 : sK σ x = 15 + 1 := hx.kd 0 16 (by decide)
  obtain ⟨_, _, hq, ⟨⟨f1, ⟨f2, f3⟩, _⟩, _, n1, n2⟩⟩ := h
  by_cases c : b = nI 0
  · refine ⟨_, ?_, by rw [if_pos c]; exact n1⟩
    apply hx_eq
    rw [n_fX11_partOfAnswer, if_pos c, sm_gF k0]
    refine hx_bs ?_
    rw [(sm_gF (ci := 5) f1).trans (congrArg some f2)]
    exact hx_bs (Hx.ret ⟨rfl, rfl⟩)
  · refine ⟨_, ?_, by rw [if_neg c]; exact n2⟩
    apply hx_eq
    rw [n_fX11_partOfAnswer, if_neg c, sm_gF k0]
    refine hx_bs ?_
    rw [(sm_gF (ci := 5) f1).trans (congrArg some f3)]
    exact hx_bs (Hx.ret ⟨rfl, rfl⟩)
theorem prt_36 {q : Qv} {b : Int32} (hq : qok q) : (if b = nI 0 then q.2.1 else q.2.2) < 10 ^ 36 := by
  have h1 := hq.2.2.2.2.1
  have h2 := hq.2.2.2.2.2
  have e : dig30 = 10 ^ 30 := rfl
  rw [e] at h1 h2
  split <;> omega
theorem ki_digits {σ : St} {x o : Nat} {s : Kst} {b : Int32} (h : KI σ x o s) : Hx (fX11_digits σ x b) (KV x 0 0 s (dgx (if b = nI 0 then s.2.2.2.1.2.1 else s.2.2.2.1.2.2)).length σ) := by
  obtain ⟨a, e1, hN⟩ := cx_part (b := b) h.1.2.1 h.2.2.1.1
  have hq : qok s.2.2.2.1 := h.2.2.1.1.2.2.1
  have k8 : sK σ a = 8 := by obtain ⟨l, n, w, h1, _⟩ := hN; exact h1.1
  rw [n_fX11_digits, sm_ckK h.1.2.1.k0]
  refine hx_bs ?_
  rw [e1]
  refine hx_cs ?_
  rw [sm_ckK k8]
  refine hx_bs ?_
  rw [cn_digitCount hN (prt_36 hq)]
  refine hx_cs ?_
  rw [sm_iz]
  exact Hx.ret (KV.same h)
theorem ki_digit {σ : St} {x o : Nat} {s : Kst} {b : Int32} {z : Int} (hz : -2147483648 ≤ z ∧ z < 2147483648) (h : KI σ x o s) : Hx (fX11_digit σ x b (iz z)) (KO x 0 0 s (if 0 ≤ z ∧ z < (dgx (if b = nI 0 then s.2.2.2.1.2.1 else s.2.2.2.1.2.2)).length then none else some "java/lang/IndexOutOfBoundsException") (atI (dgx (if b = nI 0 then s.2.2.2.1.2.1 else s.2.2.2.1.2.2)) z (fun n => (n : Int))) σ) := by
  obtain ⟨a, e1, hN⟩ := cx_part (b := b) h.1.2.1 h.2.2.1.1
  have hq : qok s.2.2.2.1 := h.2.2.1.1.2.2.1
  have hP := prt_36 (b := b) hq
  generalize (if b = nI 0 then s.2.2.2.1.2.1 else s.2.2.2.1.2.2) = y at *
  have hl := dgx_len hP
  have k8 : sK σ a = 8 := by obtain ⟨l, n, w, h1, _⟩ := hN; exact h1.1
  rw [n_fX11_digit, sm_ckK h.1.2.1.k0]
  refine hx_bs ?_
  rw [e1]
  refine hx_cs ?_
  by_cases c0 : 0 ≤ z
  · obtain ⟨i, rfl⟩ := Int.eq_ofNat_of_zero_le c0
    rw [← sm_iz i]
    refine Hx.ce (sm_lt (by omega) (by omega)) (fun c => absurd c (by omega)) (fun _ => ?_)
    rw [sm_ckK k8]
    refine hx_bs ?_
    rw [cn_digitCount hN hP]
    refine hx_cs ?_
    refine Hx.ce (sm_lt (by omega) (by omega)) (fun c => ?_) (fun c => ?_)
    · rw [sm_ckK k8]
      refine hx_bs ?_
      rw [cn_digitAt hN hP c]
      refine hx_cs ?_
      rw [if_pos (by omega), atI_of (dgx_get (by omega) c), sm_iz]
      exact Hx.ret (KO.same h)
    · rw [n_fX11_digit_18, if_neg (by omega)]
      exact Hx.ret (KO.bad h)
  · rw [show (if 0 ≤ z ∧ z < ((dgx y).length : Int) then none else some "java/lang/IndexOutOfBoundsException") = some "java/lang/IndexOutOfBoundsException" from if_neg (fun q => c0 q.1)]
    refine Hx.ce (show (iz z < nI 0) = (z < 0) by rw [show nI 0 = iz 0 from rfl, iz_lt (by omega) (by omega) (by omega) (by omega)]) (fun _ => ?_) (fun c => absurd c (by omega))
    rw [n_fX11_digit_18]
    exact Hx.ret (KO.bad h)
