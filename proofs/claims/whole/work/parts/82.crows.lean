/-! ===== the rows of fractions that are used again ===== -/
def NZ (σ : St) (a L : Nat) : Nat := ((List.range L).filter fun i => decide (sQ σ a i ≠ 0)).length
/-- how many fractions the rows have -/
def NP (σ : St) (x : Nat) : Nat := NZ σ (x + 76) 1000 + NZ σ (x + 13) 200 + NZ σ (x + 16) 200
theorem NZ_same {σ σ' : St} {a L : Nat} (h : ∀ i, sQ σ' a i = sQ σ a i) : NZ σ' a L = NZ σ a L := by
  unfold NZ
  simp only [h]
theorem NZ_put {σ σ' : St} {a i z : Nat} (h0 : sQ σ a i = 0) (hz : z ≠ 0) (he : sQ σ' a i = z) (h : ∀ j, j ≠ i → sQ σ' a j = sQ σ a j) : ∀ L, NZ σ' a L = NZ σ a L + if i < L then 1 else 0 := by
  intro L
  unfold NZ
  induction L with
  | zero => rfl
  | succ n ih =>
    rw [List.range_succ, List.filter_append, List.filter_append, List.length_append, List.length_append, ih]
    by_cases e : n = i
    · subst e
      have e1 : [n].filter (fun i => decide (sQ σ' a i ≠ 0)) = [n] := by
        rw [List.filter_cons, if_pos (by rw [he]; exact decide_eq_true hz)]; rfl
      have e2 : [n].filter (fun i => decide (sQ σ a i ≠ 0)) = [] := by
        rw [List.filter_cons, if_neg (by rw [h0]; simp)]; rfl
      rw [e1, e2, if_neg (by omega), if_pos (by omega)]
      rfl
    · have e1 : [n].filter (fun i => decide (sQ σ' a i ≠ 0)) = [n].filter (fun i => decide (sQ σ a i ≠ 0)) := by
        rw [List.filter_cons, List.filter_cons, h n e]; rfl
      rw [e1]
      by_cases c : i < n
      · rw [if_pos c, if_pos (by omega)]; omega
      · rw [if_neg c, if_neg (by omega)]; omega
theorem NZ_le (σ : St) (a L : Nat) : NZ σ a L ≤ L := by
  have := List.length_filter_le (fun i => decide (sQ σ a i ≠ 0)) (List.range L)
  rw [List.length_range] at this
  exact this
theorem NP_le (σ : St) (x : Nat) : NP σ x ≤ 1400 := by
  have := NZ_le σ (x + 76) 1000
  have := NZ_le σ (x + 13) 200
  have := NZ_le σ (x + 16) 200
  unfold NP
  omega
/-- a frame with the cost of new fractions in the rows apart -/
def cM (x : Nat) (S : Nat → Prop) (k c : Nat) (σ σ' : St) : Prop := (∃ k0 c0, cW x S k0 c0 σ σ' ∧ k0 + 15 * NP σ x ≤ 15 * NP σ' x + k ∧ c0 + 5 * NP σ x ≤ 5 * NP σ' x + c) ∧ aE x σ σ'
theorem cM.rf {x : Nat} {S : Nat → Prop} {σ : St} (hp : HP (PX x) σ) : cM x S 0 0 σ σ := ⟨⟨0, 0, cW.rf hp, by omega, by omega⟩, aE.rf⟩
theorem cM.tr {x k c k' c' : Nat} {S S1 : Nat → Prop} {σ σ1 σ2 : St} (h1 : cM x S k c σ σ1) (h2 : cM x S1 k' c' σ1 σ2) (hS : ∀ r, r < sz σ → S1 r → S r) : cM x S (k + k') (c + c') σ σ2 := by
  obtain ⟨⟨k0, c0, a1, a2, a3⟩, a4⟩ := h1
  obtain ⟨⟨k1, c1, b1, b2, b3⟩, b4⟩ := h2
  exact ⟨⟨k0 + k1, c0 + c1, a1.tr b1 hS, by omega, by omega⟩, a4.tr a1.2.1.1 b4⟩
theorem cM.mo {x k c k' c' : Nat} {S S' : Nat → Prop} {σ σ' : St} (h : cM x S k c σ σ') (hS : ∀ r, r < sz σ → S r → S' r) (hk : k ≤ k') (hc : c ≤ c') : cM x S' k' c' σ σ' := by
  obtain ⟨⟨k0, c0, a1, a2, a3⟩, a4⟩ := h
  exact ⟨⟨k0, c0, a1.mo hS (Nat.le_refl _) (Nat.le_refl _), by omega, by omega⟩, a4⟩
theorem cM.w {x k c : Nat} {S : Nat → Prop} {σ σ' : St} (h : cM x S k c σ σ') : ∃ k0 c0, cW x S k0 c0 σ σ' := by
  obtain ⟨⟨k0, c0, a1, _⟩, _⟩ := h
  exact ⟨k0, c0, a1⟩
theorem cM.hp {x k c : Nat} {S : Nat → Prop} {σ σ' : St} (h : cM x S k c σ σ') : HP (PX x) σ' := by
  obtain ⟨⟨k0, c0, a1, _⟩, _⟩ := h
  exact a1.hp
theorem cM.xs {x k c : Nat} {S : Nat → Prop} {σ σ' : St} (h : cM x S k c σ σ') (hx : XS σ x) : XS σ' x := by
  obtain ⟨⟨k0, c0, a1, _⟩, _⟩ := h
  exact hx.kW a1
theorem cM.toB {x k c : Nat} {S : Nat → Prop} {σ σ' : St} (h : cM x S k c σ σ') (hS : ∀ r, r < sz σ → S r → muS σ x r) : cB x σ σ' := by
  obtain ⟨⟨k0, c0, a1, _⟩, a4⟩ := h
  exact ⟨⟨S, k0, c0, a1, hS⟩, a4⟩
theorem XS.k104 {σ : St} {x T : Nat} (h : XS σ x) (hT : tMu T) : sK σ (x + T) = 104 := by
  rcases hT with rfl | rfl | rfl <;> exact h.kd _ 104 (by decide)
/-- a row off the frame is the same -/
theorem cW.row {x k c T : Nat} {S : Nat → Prop} {σ σ' : St} (h : cW x S k c σ σ') (hx : XS σ x) (hT : tMu T) (hS : ¬ S (x + T)) : ∀ i, sQ σ' (x + T) i = sQ σ (x + T) i := by
  have hk := hx.k104 hT
  exact (h.sam (by rw [hk]; omega) (Or.inl (by rw [hk]; omega)) hS).2.2.2.2
theorem cW.toM {x k c : Nat} {S : Nat → Prop} {σ σ' : St} (h : cW x S k c σ σ') (hx : XS σ x) (hS : ∀ T, tMu T → ¬ S (x + T)) : cM x S k c σ σ' := by
  have e : NP σ' x = NP σ x := by
    unfold NP
    rw [NZ_same (h.row hx (Or.inl rfl) (hS 76 (Or.inl rfl))), NZ_same (h.row hx (Or.inr (Or.inl rfl)) (hS 13 (Or.inr (Or.inl rfl)))), NZ_same (h.row hx (Or.inr (Or.inr rfl)) (hS 16 (Or.inr (Or.inr rfl))))]
  exact ⟨⟨k, c, h, by omega, by omega⟩, aE.of fun T hT => h.row hx hT (hS T hT)⟩
theorem SQ.gen {x k c : Nat} {S : Nat → Prop} {σ σ' : St} (hQ : SQ σ x) (hF : cW x S k c σ σ') (hrow : ∀ T, tMu T → ∀ i, sQ σ' (x + T) i = sQ σ (x + T) i) (hX : ∀ T i, tMu T → sQ σ (x + T) i ≠ 0 → ∃ s n d, FX σ' (sQ σ (x + T) i) s n d) : SQ σ' x := by
  refine ⟨fun T i hT h0 => ?_, fun T i T' j hT hT' h0 e => ?_⟩
  · rw [hrow T hT] at h0 ⊢
    obtain ⟨q1, q2, _⟩ := hQ.1 T i hT h0
    exact ⟨q1, q2.kW hF, hX T i hT h0⟩
  · rw [hrow T hT] at h0 e
    rw [hrow T' hT'] at e
    exact hQ.2 T i T' j hT hT' h0 e
/-- nothing of the rows is in the frame -/
theorem SQ.st {x k c : Nat} {S : Nat → Prop} {σ σ' : St} (hQ : SQ σ x) (hF : cW x S k c σ σ') (hx : XS σ x) (hS : ∀ r, S r → r ≤ x + 84 ∧ r ≠ x + 76 ∧ r ≠ x + 13 ∧ r ≠ x + 16) : SQ σ' x := by
  refine hQ.gen hF (fun T hT => hF.row hx hT (fun h => ?_)) (fun T i hT h0 => ?_)
  · have := hS _ h
    rcases hT with rfl | rfl | rfl <;> omega
  · obtain ⟨q1, q2, s, n, d, q3⟩ := hQ.1 T i hT h0
    exact ⟨s, n, d, q3.kW hF ⟨fun h => by have := hS _ h; omega, fun h => by have := hS _ h; omega, fun h => by have := hS _ h; omega⟩⟩
/-- two fractions of the rows are apart -/
theorem SQ.off {x T i T' j : Nat} {σ : St} (hQ : SQ σ x) (hT : tMu T) (hT' : tMu T') (h0 : sQ σ (x + T) i ≠ 0) (h0' : sQ σ (x + T') j ≠ 0) (hne : ¬ (T = T' ∧ i = j)) : sQ σ (x + T) i ≠ sQ σ (x + T') j ∧ sQ σ (x + T) i + 2 ≠ sQ σ (x + T') j ∧ sQ σ (x + T') j + 2 ≠ sQ σ (x + T) i ∧ sQ σ (x + T) i + 1 ≠ sQ σ (x + T') j ∧ sQ σ (x + T') j + 1 ≠ sQ σ (x + T) i ∧ sQ σ (x + T) i + 3 ≠ sQ σ (x + T') j ∧ sQ σ (x + T') j + 3 ≠ sQ σ (x + T) i := by
  have hn : sQ σ (x + T) i ≠ sQ σ (x + T') j := fun e => hne (hQ.2 T i T' j hT hT' h0 e)
  exact ⟨hn, (hQ.1 T i hT h0).2.1.ne (hQ.1 T' j hT' h0').2.1 hn⟩
/-- one of the fractions is written -/
theorem SQ.set {x T i k c n d : Nat} {s : Int} {σ σ' : St} (hQ : SQ σ x) (hx : XS σ x) (hT : tMu T) (h0 : sQ σ (x + T) i ≠ 0) (hF : cW x (s3 (sQ σ (x + T) i) (sQ σ (x + T) i + 1) (sQ σ (x + T) i + 3)) k c σ σ') (hX : FX σ' (sQ σ (x + T) i) s n d) : SQ σ' x := by
  have hlow := (hQ.1 T i hT h0).1
  refine hQ.gen hF (fun T' hT' => hF.row hx hT' (fun h => ?_)) (fun T' j hT' h0' => ?_)
  · simp only [s3] at h
    rcases hT' with rfl | rfl | rfl <;> omega
  · by_cases e : T' = T ∧ j = i
    · obtain ⟨rfl, rfl⟩ := e
      exact ⟨s, n, d, hX⟩
    · have hoff := hQ.off hT' hT h0' h0 e
      obtain ⟨q1, q2, s', n', d', q3⟩ := hQ.1 T' j hT' h0'
      exact ⟨s', n', d', q3.kW hF ⟨by simp only [s3]; omega, by simp only [s3]; omega, by simp only [s3]; omega⟩⟩
theorem cWq {x a j v : Nat} {σ : St} (hp : HP (PX x) σ) (h : sK σ a ≠ 8) (h2 : sK σ a ≠ 100) : cW x (s1 a) 0 0 σ (wQ σ a j v) := by
  obtain ⟨ho, hP⟩ := hp
  have hPot : Pot (PX x) (wQ σ a j v) = Pot (PX x) σ := Pot_same fun _ _ => rfl
  have e1 : sw (wQ σ a j v) = sw σ := rfl
  have e2 : sc (wQ σ a j v) = sc σ := rfl
  have ho2 : Own (wQ σ a j v) := ho
  refine ⟨⟨⟨ho, hP⟩, ho2, fun b hb => ?_⟩, ⟨Nat.le_refl _, fun _ _ => ⟨rfl, rfl, fun _ _ => rfl⟩⟩, fun b hb q1 q2 => ⟨fun _ => rfl, fun _ => rfl, fun _ => rfl, fun _ => rfl, fun i => ?_⟩, fun b hb => Or.inl ⟨ho.lt (a := b) (by show sK σ b ≠ 0; rw [show sK σ b = 8 from hb]; omega), rfl⟩, by omega, by omega⟩
  · obtain ⟨z, hz⟩ := hP b hb
    exact ⟨z, hz⟩
  · by_cases e : b = a
    · exact absurd e (q1 (by rw [e]; exact ho.nl h2))
    · exact congrFun (sQ_wQ_b e) i
theorem cWa {x a j : Nat} {v : Int32} {σ : St} (hp : HP (PX x) σ) (h : sK σ a = 100) (h2 : NL σ a) : cW x (s1 a) 0 0 σ (wA σ a j v) := by
  obtain ⟨ho, hP⟩ := hp
  have hPot : Pot (PX x) (wA σ a j v) = Pot (PX x) σ := Pot_same fun _ _ => rfl
  have e1 : sw (wA σ a j v) = sw σ := rfl
  have e2 : sc (wA σ a j v) = sc σ := rfl
  have ho2 : Own (wA σ a j v) := ho
  have hn : ∀ b z, Nt σ b z → Nt (wA σ a j v) b z := by
    rintro b z ⟨l, n, w, g1, g2, g3⟩
    refine ⟨l, n, w, g1, ⟨g2.1, fun i hi => ?_, g2.2.2⟩, g3⟩
    rw [sA_wA_b (fun e => h2 b g1.1 (g1.2.1.trans e))]
    exact g2.2.1 i hi
  refine ⟨⟨⟨ho, hP⟩, ho2, fun b hb => ?_⟩, ⟨Nat.le_refl _, fun _ _ => ⟨rfl, rfl, fun _ _ => rfl⟩⟩, fun b hb q1 q2 => ⟨fun _ => rfl, fun _ => rfl, fun i => ?_, fun _ => rfl, fun _ => rfl⟩, fun b hb => Or.inl ⟨ho.lt (a := b) (by show sK σ b ≠ 0; rw [show sK σ b = 8 from hb]; omega), rfl⟩, by omega, by omega⟩
  · obtain ⟨z, hz⟩ := hP b hb
    exact ⟨z, hn b z hz⟩
  · by_cases e : b = a
    · exact absurd e (q1 (by rw [e]; exact h2))
    · exact congrFun (sA_wA_b e) i
theorem ldQ_ok {σ : St} {ti a j : Nat} (hk : sK σ a = 100 + ti) (hj : j < sN σ a) (h2 : j < 2147483648) : ldQ σ ti a (nI j) = some (sQ σ a j) := by
  unfold ldQ
  rw [if_pos ⟨hk, sm_inb hj h2⟩, sm_clamp h2]
theorem stQ_ok {σ : St} {ti ci a j r : Nat} (hk : sK σ a = 100 + ti) (hj : j < sN σ a) (h2 : j < 2147483648) (hr : r = 0 ∨ sK σ r = ci + 1) : stQ σ ti ci a (nI j) r = some (wQ σ a j r) := by
  unfold stQ
  rw [if_pos ⟨hk, sm_inb hj h2, hr⟩, sm_clamp h2]
theorem XS.nn {σ : St} {x : Nat} (h : XS σ x) (o n : Nat) (hm : (o, n) ∈ xN) : sN σ (x + o) = n := h.2.2.2.1 _ hm
def lT (T : Nat) : Nat := if T = 76 then 1000 else 200
theorem XS.lT {σ : St} {x T : Nat} (h : XS σ x) (hT : tMu T) : sN σ (x + T) = lT T := by
  rcases hT with rfl | rfl | rfl
  · exact h.nn 76 1000 (by decide)
  · exact h.nn 13 200 (by decide)
  · exact h.nn 16 200 (by decide)
/-- a new fraction comes into a row -/
theorem SQ.put {x T i : Nat} {σ σ1 : St} (hQ : SQ σ x) (hx : XS σ x) (hT : tMu T) (hi : i < lT T) (h0 : sQ σ (x + T) i = 0) (hF : cW x s0 15 5 σ σ1) (hX : FX σ1 (sz σ) 0 0 1) : SQ (wQ σ1 (x + T) i (sz σ)) x ∧ cM x (s1 (x + T)) 0 0 σ (wQ σ1 (x + T) i (sz σ)) ∧ stQ σ1 4 5 (x + T) (nI i) (sz σ) = some (wQ σ1 (x + T) i (sz σ)) ∧ FX (wQ σ1 (x + T) i (sz σ)) (sz σ) 0 0 1 ∧ sz σ ≠ 0 := by
  have hx1 := hx.kW hF
  have hk := hx1.k104 hT
  have hl := hx1.lT hT
  have hF2 := cWq (j := i) (v := sz σ) hF.hp (show sK σ1 (x + T) ≠ 8 by omega) (show sK σ1 (x + T) ≠ 100 by omega)
  have hrow1 : ∀ T', tMu T' → ∀ j, sQ σ1 (x + T') j = sQ σ (x + T') j := fun T' hT' => hF.row hx hT' (fun h => h)
  have hzx : x + 144 ≤ sz σ := hx.1.2
  have hTne : ∀ T', tMu T' → (x + T' = x + T ↔ T' = T) := fun T' _ => by omega
  have hrow : ∀ T', tMu T' → ∀ j, sQ (wQ σ1 (x + T) i (sz σ)) (x + T') j = if T' = T ∧ j = i then sz σ else sQ σ (x + T') j := by
    intro T' hT' j
    by_cases e : T' = T ∧ j = i
    · obtain ⟨rfl, rfl⟩ := e
      rw [if_pos ⟨rfl, rfl⟩]; exact sQ_wQ_eq
    · rw [if_neg e, ← hrow1 T' hT' j]
      exact if_neg (fun q => e ⟨by omega, q.2⟩)
  have hX2 : FX (wQ σ1 (x + T) i (sz σ)) (sz σ) 0 0 1 := hX.kW hF2 ⟨by simp only [s1]; rcases hT with rfl | rfl | rfl <;> omega, by simp only [s1]; rcases hT with rfl | rfl | rfl <;> omega, by simp only [s1]; rcases hT with rfl | rfl | rfl <;> omega⟩
  refine ⟨⟨fun T' j hT' g0 => ?_, fun T' j T2 j2 hT' hT2 g0 e => ?_⟩, ⟨⟨15, 5, ?_, ?_, ?_⟩, fun T' j hT' => ?_⟩, ?_, hX2, by omega⟩
  · rw [hrow T' hT'] at g0 ⊢
    by_cases e : T' = T ∧ j = i
    · rw [if_pos e]
      exact ⟨by omega, hX2.1, _, _, _, hX2⟩
    · rw [if_neg e] at g0 ⊢
      obtain ⟨q1, q2, s, n, d, q3⟩ := hQ.1 T' j hT' g0
      have q4 := q3.kW hF ⟨fun h => h, fun h => h, fun h => h⟩
      have q5 := q4.kW hF2 ⟨by simp only [s1]; rcases hT with rfl | rfl | rfl <;> omega, by simp only [s1]; rcases hT with rfl | rfl | rfl <;> omega, by simp only [s1]; rcases hT with rfl | rfl | rfl <;> omega⟩
      exact ⟨q1, q5.1, _, _, _, q5⟩
  · rw [hrow T' hT'] at g0 e
    rw [hrow T2 hT2] at e
    have hlt : ∀ T' j, tMu T' → sQ σ (x + T') j ≠ 0 → sQ σ (x + T') j < sz σ := fun T' j hT' h => hF.1.1.1.lt (by rw [(hQ.1 T' j hT' h).2.1.1]; omega)
    by_cases c1 : T' = T ∧ j = i
    · rw [if_pos c1] at e
      by_cases c2 : T2 = T ∧ j2 = i
      · exact ⟨c1.1.trans c2.1.symm, c1.2.trans c2.2.symm⟩
      · rw [if_neg c2] at e
        have := hlt T2 j2 hT2 (by omega)
        omega
    · rw [if_neg c1] at g0 e
      by_cases c2 : T2 = T ∧ j2 = i
      · rw [if_pos c2] at e
        have := hlt T' j hT' g0
        omega
      · rw [if_neg c2] at e
        exact hQ.2 T' j T2 j2 hT' hT2 g0 e
  · exact (hF.mo (S' := s1 (x + T)) (fun r _ h => h.elim) (Nat.le_refl _) (Nat.le_refl _)).tr0 hF2 (fun r _ h => h)
  · have key : NP (wQ σ1 (x + T) i (sz σ)) x = NP σ x + 1 := by
      have hp := fun L => NZ_put (σ := σ) (σ' := wQ σ1 (x + T) i (sz σ)) h0 (show sz σ ≠ 0 by omega) (by rw [hrow T hT, if_pos ⟨rfl, rfl⟩]) (fun j hj => by rw [hrow T hT, if_neg (fun q => hj q.2)]) L
      have hs : ∀ T', tMu T' → T' ≠ T → ∀ L, NZ (wQ σ1 (x + T) i (sz σ)) (x + T') L = NZ σ (x + T') L := fun T' hT' hne L => NZ_same fun j => by rw [hrow T' hT', if_neg (fun q => hne q.1)]
      unfold NP
      unfold lT at hi
      rcases hT with rfl | rfl | rfl
      · rw [hp, hs 13 (by unfold tMu; omega) (by omega), hs 16 (by unfold tMu; omega) (by omega), if_pos (by simpa using hi)]; omega
      · rw [hp, hs 76 (by unfold tMu; omega) (by omega), hs 16 (by unfold tMu; omega) (by omega), if_pos (by simpa using hi)]; omega
      · rw [hp, hs 76 (by unfold tMu; omega) (by omega), hs 13 (by unfold tMu; omega) (by omega), if_pos (by simpa using hi)]; omega
    omega
  · have key : NP (wQ σ1 (x + T) i (sz σ)) x = NP σ x + 1 := by
      have hp := fun L => NZ_put (σ := σ) (σ' := wQ σ1 (x + T) i (sz σ)) h0 (show sz σ ≠ 0 by omega) (by rw [hrow T hT, if_pos ⟨rfl, rfl⟩]) (fun j hj => by rw [hrow T hT, if_neg (fun q => hj q.2)]) L
      have hs : ∀ T', tMu T' → T' ≠ T → ∀ L, NZ (wQ σ1 (x + T) i (sz σ)) (x + T') L = NZ σ (x + T') L := fun T' hT' hne L => NZ_same fun j => by rw [hrow T' hT', if_neg (fun q => hne q.1)]
      unfold NP
      unfold lT at hi
      rcases hT with rfl | rfl | rfl
      · rw [hp, hs 13 (by unfold tMu; omega) (by omega), hs 16 (by unfold tMu; omega) (by omega), if_pos (by simpa using hi)]; omega
      · rw [hp, hs 76 (by unfold tMu; omega) (by omega), hs 16 (by unfold tMu; omega) (by omega), if_pos (by simpa using hi)]; omega
      · rw [hp, hs 76 (by unfold tMu; omega) (by omega), hs 13 (by unfold tMu; omega) (by omega), if_pos (by simpa using hi)]; omega
    omega
  · rw [hrow T' hT']
    by_cases e : T' = T ∧ j = i
    · obtain ⟨rfl, rfl⟩ := e
      rw [if_pos ⟨rfl, rfl⟩]
      exact Or.inr ⟨h0, Nat.le_refl _⟩
    · rw [if_neg e]; exact Or.inl rfl
  · exact stQ_ok hk (by rw [hl]; exact hi) (by unfold lT at hi; split at hi <;> omega) (Or.inr hX.1.1)
