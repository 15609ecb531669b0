/-! ===== the best approximation: one ===== -/
theorem qmk_same {s1 s2 : Int} {x1 x2 y : Nat} (hy : 0 < y) (h1 : qlow (qmk s1 x1 y)) (h2 : qlow (qmk s2 x2 y)) (h : s1 * (x1 : Int) = s2 * (x2 : Int)) : qmk s1 x1 y = qmk s2 x2 y := by
  have v1 := qmk_val (s := s1) (x := x1) (y := y)
  have v2 := qmk_val (s := s2) (x := x2) (y := y)
  refine q_one h1 h2 ?_
  generalize qmk s1 x1 y = p at *
  generalize qmk s2 x2 y = q at *
  rw [h] at v1
  refine Int.eq_of_mul_eq_mul_right (a := (y : Int)) (by omega) ?_
  have e1 : p.1 * (p.2.1 : Int) * (q.2.2 : Int) * (y : Int) = p.1 * (p.2.1 : Int) * (y : Int) * (q.2.2 : Int) := by grind
  have e2 : q.1 * (q.2.1 : Int) * (p.2.2 : Int) * (y : Int) = q.1 * (q.2.1 : Int) * (y : Int) * (p.2.2 : Int) := by grind
  rw [e1, e2, v1, v2]
  grind
/-- how a fraction lies to another -/
theorem qmk_cmp {s : Int} {x y : Nat} {q : Qv} (hy : 0 < y) (h1 : qlow (qmk s x y)) (hq : qlow q) : (s * (x : Int) * (q.2.2 : Int) < sv q * (y : Int) → cmpq (qmk s x y) q = -1) ∧ (s * (x : Int) * (q.2.2 : Int) = sv q * (y : Int) → cmpq (qmk s x y) q = 0) ∧ (sv q * (y : Int) < s * (x : Int) * (q.2.2 : Int) → cmpq (qmk s x y) q = 1) := by
  have v1 := qmk_val (s := s) (x := x) (y := y)
  have h := cmpq_sv h1 hq
  have hd1 := h1.2.2.1
  unfold sv at h ⊢
  generalize qmk s x y = p at *
  have e1 : p.1 * (p.2.1 : Int) * (q.2.2 : Int) * (y : Int) = s * (x : Int) * (q.2.2 : Int) * (p.2.2 : Int) := by
    have : p.1 * (p.2.1 : Int) * (q.2.2 : Int) * (y : Int) = p.1 * (p.2.1 : Int) * (y : Int) * (q.2.2 : Int) := by grind
    rw [this, v1]
    grind
  have e2 : q.1 * (q.2.1 : Int) * (p.2.2 : Int) * (y : Int) = q.1 * (q.2.1 : Int) * (y : Int) * (p.2.2 : Int) := by grind
  generalize s * (x : Int) * (q.2.2 : Int) = X at *
  generalize q.1 * (q.2.1 : Int) * (y : Int) = Y at *
  have hyI : (0 : Int) < (y : Int) := by omega
  have hdI : (0 : Int) < (p.2.2 : Int) := by omega
  refine ⟨fun w => ?_, fun w => ?_, fun w => ?_⟩
  · have := Int.mul_lt_mul_of_pos_right w hdI
    have hlt : p.1 * (p.2.1 : Int) * (q.2.2 : Int) < q.1 * (q.2.1 : Int) * (p.2.2 : Int) := Int.lt_of_mul_lt_mul_right (a := (y : Int)) (by omega) (by omega)
    rcases h with ⟨_, h⟩ | ⟨h, _⟩ | ⟨h, _⟩ <;> omega
  · subst w
    have heq : p.1 * (p.2.1 : Int) * (q.2.2 : Int) = q.1 * (q.2.1 : Int) * (p.2.2 : Int) := Int.eq_of_mul_eq_mul_right (a := (y : Int)) (by omega) (by omega)
    rcases h with ⟨h, _⟩ | ⟨_, h⟩ | ⟨h, _⟩ <;> omega
  · have := Int.mul_lt_mul_of_pos_right w hdI
    have hlt : q.1 * (q.2.1 : Int) * (p.2.2 : Int) < p.1 * (p.2.1 : Int) * (q.2.2 : Int) := Int.lt_of_mul_lt_mul_right (a := (y : Int)) (by omega) (by omega)
    rcases h with ⟨h, _⟩ | ⟨h, _⟩ | ⟨_, h⟩ <;> omega
theorem best_same {q : Qv} {bd : Nat} (hq : qok q) (hbd : 1 ≤ bd ∧ bd ≤ 1000) : bestQ q bd = sbQ q bd ∧ qok (sbQ q bd) ∧ cmpq (sbQ q bd) q = sbC q bd := by
  obtain ⟨k1, k2, _, k4, k5, k6, _⟩ := flo_b hq
  have hd := hq.2.2.1
  have hX0 : SbX bd (abv q) q.2.2 (sb0 q) := by
    refine ⟨⟨Nat.one_pos, hbd.1, Nat.one_pos, hbd.1⟩, rfl, ⟨?_, ?_⟩, ?_⟩
    · show abv q + 0 * q.2.2 = abv q * 1; omega
    · show q.2.2 - abv q + abv q * 1 = 1 * q.2.2; omega
    · show 0 < q.2.2 - abv q; omega
  have hsx : SbX bd (abv q) q.2.2 (sbS q bd) ∧ (bd < (sbS q bd).2.2.2.1 + (sbS q bd).2.2.2.2.2 ∨ (sbS q bd).1 = 0) := sb_end 1000 (sb0 q) (show bd < 1 + 1 + 1000 by omega) hX0
  obtain ⟨⟨⟨i1, i2, i3, i4⟩, i5, ⟨i6, i7⟩, i8⟩, hend⟩ := hsx
  have hN : sv q = q.1 * (flo q : Int) * (q.2.2 : Int) + (abv q : Int) := by
    have hav : abv q = if q.1 < 0 then flo q * q.2.2 - q.2.1 else q.2.1 - flo q * q.2.2 := rfl
    unfold sv
    rcases sgB_v hq with ⟨_, g2⟩ | ⟨_, g2⟩ | ⟨_, g2, g3⟩
    · have k1 := k1 (by omega)
      rw [if_pos (by omega)] at hav
      have : ((flo q * q.2.2 : Nat) : Int) = (flo q : Int) * (q.2.2 : Int) := Int.natCast_mul _ _
      rw [g2, Int.neg_one_mul, Int.neg_one_mul, Int.neg_mul]
      omega
    · have k2 := k2 (by omega)
      rw [if_neg (by omega)] at hav
      have : ((flo q * q.2.2 : Nat) : Int) = (flo q : Int) * (q.2.2 : Int) := Int.natCast_mul _ _
      rw [g2, Int.one_mul, Int.one_mul]
      omega
    · have f0 : flo q = 0 := Classical.byContradiction fun z => k6 z g2
      rw [if_neg (by omega), g3] at hav
      rw [g2, g3, Int.zero_mul, Int.zero_mul, Int.zero_mul]
      omega
  have hdI : (0 : Int) < (q.2.2 : Int) := by omega
  have J1 : ((sbS q bd).2.2.2.2.1 : Int) * ((sbS q bd).2.2.2.1 : Int) = ((sbS q bd).2.2.1 : Int) * ((sbS q bd).2.2.2.2.2 : Int) + 1 := by
    rw [← Int.natCast_mul, ← Int.natCast_mul]; omega
  have J2 : ((sbS q bd).1 : Int) + ((sbS q bd).2.2.1 : Int) * (q.2.2 : Int) = (abv q : Int) * ((sbS q bd).2.2.2.1 : Int) := by
    rw [← Int.natCast_mul, ← Int.natCast_mul]; omega
  have J3 : ((sbS q bd).2.1 : Int) + (abv q : Int) * ((sbS q bd).2.2.2.2.2 : Int) = ((sbS q bd).2.2.2.2.1 : Int) * (q.2.2 : Int) := by
    rw [← Int.natCast_mul, ← Int.natCast_mul]; omega
  have hlw : sbLow (sbS q bd) ↔ (((sbS q bd).1 : Int) * ((sbS q bd).2.2.2.2.2 : Int) < ((sbS q bd).2.1 : Int) * ((sbS q bd).2.2.2.1 : Int) ∨ (((sbS q bd).1 : Int) * ((sbS q bd).2.2.2.2.2 : Int) = ((sbS q bd).2.1 : Int) * ((sbS q bd).2.2.2.1 : Int) ∧ ((sbS q bd).2.2.2.1 : Int) ≤ ((sbS q bd).2.2.2.2.2 : Int))) := by
    unfold sbLow
    rw [← Int.natCast_mul, ← Int.natCast_mul]
    omega
  have hl0 : (sbS q bd).1 = 0 → sbLow (sbS q bd) := by
    intro z
    unfold sbLow
    rw [z, Nat.zero_mul]
    exact Or.inl (Nat.mul_pos i8 i1)
  have lxs := fun {b' P' : Int} hb' => sb_lx (N := sv q) (x := abv q) (d := q.2.2) (sF := q.1 * (flo q : Int)) (l := (sbS q bd).1) (r := (sbS q bd).2.1) (a := (sbS q bd).2.2.1) (b := (sbS q bd).2.2.2.1) (c := (sbS q bd).2.2.2.2.1) (e := (sbS q bd).2.2.2.2.2) (bd := bd) (b' := b') (P' := P') hdI hN (by omega) (by omega) J1 J2 J3 (by omega) (by omega) (by omega) hb'
  have hsum : (sbS q bd).2.2.2.2.2 * (sbS q bd).1 + (sbS q bd).2.2.2.1 * (sbS q bd).2.1 = q.2.2 := by
    have : ((sbS q bd).2.2.2.2.2 : Int) * ((sbS q bd).1 : Int) + ((sbS q bd).2.2.2.1 : Int) * ((sbS q bd).2.1 : Int) = (q.2.2 : Int) := by grind
    rw [← Int.natCast_mul, ← Int.natCast_mul] at this
    omega
  -- what is chosen
  have chosen : ∃ (u w T : Nat), sbN (sbS q bd) = (u, w) ∧ 0 < w ∧ w ≤ bd ∧ (T : Int) = er (sv q) q.2.2 w (q.1 * (flo q : Int) * (w : Int) + (u : Int)) ∧ (∀ (b' P' : Int), 0 < b' ∧ b' ≤ (bd : Int) → LX T w (q.1 * (flo q : Int) * (w : Int) + (u : Int)) (er (sv q) q.2.2 b' P') b' P') ∧ T ≤ q.2.2 ∧ ((sbS q bd).1 = 0 → (q.1 * (flo q : Int) * (w : Int) + (u : Int)) * (q.2.2 : Int) = sv q * (w : Int)) ∧ ((sbS q bd).1 ≠ 0 → (sbLow (sbS q bd) → (q.1 * (flo q : Int) * (w : Int) + (u : Int)) * (q.2.2 : Int) < sv q * (w : Int)) ∧ (¬ sbLow (sbS q bd) → sv q * (w : Int) < (q.1 * (flo q : Int) * (w : Int) + (u : Int)) * (q.2.2 : Int))) := by
    unfold sbN
    by_cases c : sbLow (sbS q bd)
    · rw [if_pos c]
      have eT : ((sbS q bd).1 : Int) = sv q * ((sbS q bd).2.2.2.1 : Int) - (q.1 * (flo q : Int) * ((sbS q bd).2.2.2.1 : Int) + ((sbS q bd).2.2.1 : Int)) * (q.2.2 : Int) := by rw [hN]; grind
      refine ⟨_, _, (sbS q bd).1, rfl, i1, i2, (er_lo eT (by omega)).symm, fun b' P' hb' => (lxs hb').1 (hlw.mp c), ?_, fun z => by omega, fun z => ⟨fun _ => by omega, fun y => absurd c y⟩⟩
      have := Nat.le_mul_of_pos_left (sbS q bd).1 i3
      omega
    · rw [if_neg c]
      have eT : ((sbS q bd).2.1 : Int) = (q.1 * (flo q : Int) * ((sbS q bd).2.2.2.2.2 : Int) + ((sbS q bd).2.2.2.2.1 : Int)) * (q.2.2 : Int) - sv q * ((sbS q bd).2.2.2.2.2 : Int) := by rw [hN]; grind
      refine ⟨_, _, (sbS q bd).2.1, rfl, i3, i4, (er_hi eT (by omega)).symm, fun b' P' hb' => (lxs hb').2 (fun z => c (hlw.mpr z)), ?_, fun z => absurd (hl0 z) c, fun z => ⟨fun y => absurd y c, fun _ => by omega⟩⟩
      have := Nat.le_mul_of_pos_left (sbS q bd).2.1 i1
      omega
  obtain ⟨u, w, T, hn, hw0, hwb, hT, hLX, hTd, hex, hcmp⟩ := chosen
  -- the fraction that is built of it
  have hS : sbQ q bd = qmk (jnS (if flo q = 0 then 0 else q.1) (if u = 0 then 0 else 1) (flo q * w) u) (jnN (if flo q = 0 then 0 else q.1) (if u = 0 then 0 else 1) (flo q * w) u) w := by
    unfold sbQ
    rw [hn]
    rfl
  have hs1 : (if flo q = 0 then (0 : Int) else q.1) = 0 ∨ (if flo q = 0 then (0 : Int) else q.1) = 1 ∨ (if flo q = 0 then (0 : Int) else q.1) = -1 := by
    split
    · exact Or.inl rfl
    · exact hq.1
  have ht1 : (if u = 0 then (0 : Int) else 1) = 0 ∨ (if u = 0 then (0 : Int) else 1) = 1 ∨ (if u = 0 then (0 : Int) else 1) = -1 := by
    split
    · exact Or.inl rfl
    · exact Or.inr (Or.inl rfl)
  have hx0 : (if flo q = 0 then (0 : Int) else q.1) = 0 ↔ flo q * w = 0 := by
    by_cases c : flo q = 0
    · rw [if_pos c, c, Nat.zero_mul]; exact ⟨fun _ => rfl, fun _ => rfl⟩
    · rw [if_neg c]
      have := Nat.mul_pos (show 0 < flo q by omega) hw0
      exact ⟨fun z => absurd z (k6 c), fun z => by omega⟩
  have hy0 : (if u = 0 then (0 : Int) else 1) = 0 ↔ u = 0 := by
    by_cases c : u = 0
    · rw [if_pos c]; exact ⟨fun _ => c, fun _ => rfl⟩
    · rw [if_neg c]; exact ⟨fun z => by omega, fun z => absurd z c⟩
  have hval := jn_val hs1 ht1 hx0.mp hy0.mp
  have hsg := jn_sg (X := flo q * w) (Y := u) hs1 ht1
  have hnz := jn_nz hs1 ht1 hx0 hy0
  have hP : jnS (if flo q = 0 then 0 else q.1) (if u = 0 then 0 else 1) (flo q * w) u * (jnN (if flo q = 0 then 0 else q.1) (if u = 0 then 0 else 1) (flo q * w) u : Int) = q.1 * (flo q : Int) * (w : Int) + (u : Int) := by
    rw [hval, Int.natCast_mul]
    have a1 : (if flo q = 0 then (0 : Int) else q.1) * ((flo q : Int) * (w : Int)) = q.1 * (flo q : Int) * (w : Int) := by
      by_cases c : flo q = 0
      · rw [if_pos c, c]; simp
      · rw [if_neg c, Int.mul_assoc]
    have a2 : (if u = 0 then (0 : Int) else 1) * (u : Int) = (u : Int) := by
      by_cases c : u = 0
      · rw [if_pos c, c]; rfl
      · rw [if_neg c, Int.one_mul]
    rw [a1, a2]
  generalize jnS (if flo q = 0 then 0 else q.1) (if u = 0 then 0 else 1) (flo q * w) u = S at *
  generalize jnN (if flo q = 0 then 0 else q.1) (if u = 0 then 0 else 1) (flo q * w) u = M at *
  have hlow : qlow (qmk S M w) := qmk_lw hw0 hsg (fun z => by rcases hnz z with y | y <;> omega)
  -- the other way
  have hB := bsl_inv hq bd 1 (0, 0, 0) Nat.one_pos (Or.inl ⟨rfl, rfl⟩)
  have hBQ : bestQ q bd = qmk (sgB q) (bsl q bd 1 (0, 0, 0)).2.1 (bsl q bd 1 (0, 0, 0)).1 := rfl
  generalize bsl q bd 1 (0, 0, 0) = B at *
  rcases hB with ⟨_, z⟩ | ⟨b1, b2, b3, b4⟩
  · omega
  have l1 := b4 w (q.1 * (flo q : Int) * (w : Int) + (u : Int)) hw0 (by omega)
  rw [← hT] at l1
  have l2 := hLX B.1 (sgB q * B.2.1) (by omega)
  rw [← b3] at l2
  obtain ⟨eb, eP⟩ := LX.anti l1 l2
  have eb : B.1 = w := by omega
  have hsb : sgB q = 0 ∨ sgB q = 1 ∨ sgB q = -1 := by rcases sgB_v hq with ⟨g, _⟩ | ⟨g, _⟩ | ⟨g, _⟩ <;> omega
  have hlow2 : qlow (qmk (sgB q) B.2.1 B.1) := qmk_lw b1 hsb (fun _ => by rcases sgB_v hq with ⟨g, _⟩ | ⟨g, _⟩ | ⟨g, _⟩ <;> omega)
  have same : bestQ q bd = sbQ q bd := by
    rw [hBQ, hS]
    rw [eb] at hlow2 ⊢
    exact qmk_same hw0 hlow2 hlow (by rw [eP, hP])
  rw [same, hS]
  obtain ⟨m1, m2, m3⟩ := qmk_cmp (q := q) hw0 hlow hq.low
  rw [hP] at m1 m2 m3
  refine ⟨rfl, ?_, ?_⟩
  · by_cases c : (sbS q bd).1 = 0
    · rw [(cmpq_eq0 hlow hq.low).mp (m2 (hex c))]
      exact hq
    · have hdw : bd < q.2.2 := by
        have h1 := Nat.le_mul_of_pos_right (sbS q bd).2.2.2.2.2 (show 0 < (sbS q bd).1 by omega)
        have h2 := Nat.le_mul_of_pos_right (sbS q bd).2.2.2.1 i8
        omega
      have hM : M < dig30 := by
        have hM1 : (M : Int) * (q.2.2 : Int) ≤ (q.2.1 : Int) * (w : Int) + (T : Int) := by
          have hT2 : (T : Int) = (((sv q * (w : Int) - S * (M : Int) * (q.2.2 : Int)).natAbs : Nat) : Int) := by rw [hP]; exact hT
          have e1 : (S * (M : Int) * (q.2.2 : Int)).natAbs ≤ M * q.2.2 ∧ (S = 1 ∨ S = -1 → (S * (M : Int) * (q.2.2 : Int)).natAbs = M * q.2.2) := by
            rw [Int.natAbs_mul, Int.natAbs_mul, Int.natAbs_natCast, Int.natAbs_natCast]
            rcases hsg with g | g | g <;> rw [g]
            · rw [show ((0 : Int).natAbs) = 0 from rfl, Nat.zero_mul, Nat.zero_mul]
              exact ⟨Nat.zero_le _, fun z => by omega⟩
            · rw [show ((1 : Int).natAbs) = 1 from rfl, Nat.one_mul]
              exact ⟨Nat.le_refl _, fun _ => rfl⟩
            · rw [show ((-1 : Int).natAbs) = 1 from rfl, Nat.one_mul]
              exact ⟨Nat.le_refl _, fun _ => rfl⟩
          have e2 : (sv q * (w : Int)).natAbs ≤ q.2.1 * w := by
            unfold sv
            rw [Int.natAbs_mul, sg_abs hq.1 hq.2.1, Int.natAbs_natCast]
            exact Nat.le_refl _
          have e3 : ((M * q.2.2 : Nat) : Int) = (M : Int) * (q.2.2 : Int) := Int.natCast_mul _ _
          have e4 : ((q.2.1 * w : Nat) : Int) = (q.2.1 : Int) * (w : Int) := Int.natCast_mul _ _
          by_cases cM : M = 0
          · rw [cM]
            have : (0 : Int) ≤ (q.2.1 : Int) * (w : Int) := Int.mul_nonneg (by omega) (by omega)
            show (0 : Int) * _ ≤ _
            rw [Int.zero_mul]
            omega
          · have e5 := e1.2 (hnz cM)
            rw [← e3, ← e4]
            generalize S * (M : Int) * (q.2.2 : Int) = X at *
            generalize sv q * (w : Int) = Y at *
            generalize M * q.2.2 = K at *
            generalize q.2.1 * w = K2 at *
            omega
        have hM2 : M * q.2.2 ≤ q.2.1 * w + q.2.2 := by
          have e3 : ((M * q.2.2 : Nat) : Int) = (M : Int) * (q.2.2 : Int) := Int.natCast_mul _ _
          have e4 : ((q.2.1 * w : Nat) : Int) = (q.2.1 : Int) * (w : Int) := Int.natCast_mul _ _
          omega
        by_cases cn : q.2.2 ≤ q.2.1
        · have h1 : q.2.1 * w + q.2.1 ≤ q.2.1 * q.2.2 := by
            rw [← Nat.mul_succ]
            exact Nat.mul_le_mul_left _ (by omega)
          have h2 : M * q.2.2 ≤ q.2.1 * q.2.2 := by omega
          have := Nat.le_of_mul_le_mul_right h2 hd
          have := hq.2.2.2.2.1
          omega
        · have h1 : q.2.1 * w + q.2.2 ≤ (w + 1) * q.2.2 := by
            rw [Nat.add_mul, Nat.one_mul, Nat.mul_comm w]
            exact Nat.add_le_add_right (Nat.mul_le_mul_right _ (by omega)) _
          have h2 : M * q.2.2 ≤ (w + 1) * q.2.2 := by omega
          have := Nat.le_of_mul_le_mul_right h2 hd
          have : 1002 < dig30 := by decide
          omega
      have hw30 : w < dig30 := by
        have : 1002 < dig30 := by decide
        omega
      obtain ⟨p1, p2⟩ := qmk_b S M w
      exact ⟨hlow.1, hlow.2.1, hlow.2.2.1, hlow.2.2.2, by omega, by omega⟩
  · unfold sbC
    by_cases c : (sbS q bd).1 = 0
    · rw [if_pos c]; exact m2 (hex c)
    · rw [if_neg c]
      by_cases c2 : sbLow (sbS q bd)
      · rw [if_pos c2]; exact m1 ((hcmp c).1 c2)
      · rw [if_neg c2]; exact m3 ((hcmp c).2 c2)
section
variable {x b L i c9 w9 : Nat} {xs : Nat → Int32} {s s' : Kst} {c c' : Rct} {h h' : As × List As × List As} {σ σ' : St} {k23 : St → Nat → Nat → Nat → Nat → Int32 → Prop}
theorem br_1688 (hn : Nx x b L xs i k23) (hL : Lo x b L xs i s c h σ) : pL_law_1688 c9 w9 k23 σ b x (x + 98) (x + 143) (nI (6 * i)) := by
  obtain ⟨o, k⟩ := hL.ki
  have hb := hL.bds
  have hq := hL.aok
  refine lw_a (j := 1) hL.1 hL.2.2.2.2 (by omega) ?_
  generalize hv : xs (6 * i + 1) = v
  revert hv
  refine int_all (P := fun v => xs (6 * i + 1) = v → exW (fL_takeBest σ x v (x + 143)) _) (v := v) (fun z hz hv => ?_)
  unfold fL_takeBest
  have bs := fun (y : 1 ≤ z ∧ z ≤ 1000) => best_same (bd := z.toNat) hq (by omega)
  have hc := ki_takeBest hz k (fun y => (bs y).2.1)
  have hr := fun σ1 hR1 => ri_takeBest (σ := σ1) (m := x + 98) (c := c) (s := rst s h) hz (show c.1 + 1 < 12600 by omega) hR1 (fun y => by
    have e : bestQ (rst s h).2.2.2.1 z.toNat = sbQ s.2.2.2.1 z.toNat := (bs y).1
    rw [e]
    exact ⟨(bs y).2.1.2.2.2.2.1, (bs y).2.1.2.2.2.2.2⟩)
  by_cases ca : 1 ≤ z ∧ z ≤ 1000
  · rw [if_pos ca, if_pos ca] at hc
    have e : bestQ (rst s h).2.2.2.1 z.toNat = sbQ s.2.2.2.1 z.toNat := (bs ca).1
    have e2 : cmpq (sbQ s.2.2.2.1 z.toNat) (rst s h).2.2.2.1 = sbC s.2.2.2.1 z.toNat := (bs ca).2.2
    rw [if_pos ca, if_pos ca, e, e2] at hr
    refine one_end (fr := fun σ v => fX12_takeBest σ (x + 98) v) (kk := 0) (h' := h) hn hL hc (fun σ1 hR1 => ?_) hd_n (fun _ => rfl) rfl hL.2.1 (by omega) (by omega)
    rw [hv]
    exact ⟨_, fun _ => rfl, hr σ1 hR1⟩
  · rw [if_neg ca, if_neg ca] at hc
    rw [if_neg ca, if_neg ca] at hr
    refine one_end (fr := fun σ v => fX12_takeBest σ (x + 98) v) (kk := 1) (h' := h) (hd := fun τ E => (if E = "java/lang/IllegalArgumentException" then some (τ, 1) else none)) hn hL hc (fun σ1 hR1 => ?_) (hd_s (by omega) (fun τ => if_pos rfl)) (fun z => by cases z) rfl hL.2.1 (by omega) (by omega)
    rw [hv]
    exact ⟨_, fun y => by omega, hr σ1 hR1⟩
end
