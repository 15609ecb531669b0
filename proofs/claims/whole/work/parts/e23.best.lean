/-! ===== the best approximation: both ways come to one ===== -/
/-- nearer, or as near with fewer parts, or as near with as many and not above -/
def LX (t b P t' b' P' : Int) : Prop := t * b' < t' * b ∨ (t * b' = t' * b ∧ (b < b' ∨ (b = b' ∧ P ≤ P')))
theorem LX.rf (t b P : Int) : LX t b P t b P := Or.inr ⟨rfl, Or.inr ⟨rfl, Int.le_refl _⟩⟩
theorem LX.tr {t b P t' b' P' t'' b'' P'' : Int} (hb : 0 < b) (hb' : 0 < b') (hb'' : 0 < b'') (h1 : LX t b P t' b' P') (h2 : LX t' b' P' t'' b'' P'') : LX t b P t'' b'' P'' := by
  have e1 : t * b' * b'' = t * b'' * b' := by grind
  have e2 : t' * b * b'' = t' * b'' * b := by grind
  have e3 : t'' * b' * b = t'' * b * b' := by grind
  rcases h1 with h1 | ⟨h1, g1⟩ <;> rcases h2 with h2 | ⟨h2, g2⟩
  · have x1 := Int.mul_lt_mul_of_pos_right h1 hb''
    have x2 := Int.mul_lt_mul_of_pos_right h2 hb
    exact Or.inl (Int.lt_of_mul_lt_mul_right (a := b') (by omega) (by omega))
  · have x1 := Int.mul_lt_mul_of_pos_right h1 hb''
    have x2 : t' * b'' * b = t'' * b' * b := by rw [h2]
    exact Or.inl (Int.lt_of_mul_lt_mul_right (a := b') (by omega) (by omega))
  · have x1 : t * b' * b'' = t' * b * b'' := by rw [h1]
    have x2 := Int.mul_lt_mul_of_pos_right h2 hb
    exact Or.inl (Int.lt_of_mul_lt_mul_right (a := b') (by omega) (by omega))
  · have x1 : t * b' * b'' = t' * b * b'' := by rw [h1]
    have x2 : t' * b'' * b = t'' * b' * b := by rw [h2]
    refine Or.inr ⟨Int.eq_of_mul_eq_mul_right (a := b') (by omega) (by omega), ?_⟩
    omega
theorem LX.anti {t b P t' b' P' : Int} (h1 : LX t b P t' b' P') (h2 : LX t' b' P' t b P) : b = b' ∧ P = P' := by
  rcases h1 with h1 | ⟨h1, g1⟩ <;> rcases h2 with h2 | ⟨h2, g2⟩ <;> omega
def er (N d b P : Int) : Int := ((N * b - P * d).natAbs : Int)
def BInv (N d sg : Int) (b : Nat) (B : Bes) : Prop := (B.1 = 0 ∧ b = 1) ∨ (0 < B.1 ∧ B.1 < b ∧ (B.2.2 : Int) = er N d B.1 (sg * B.2.1) ∧ ∀ (b' : Nat) (P' : Int), 0 < b' → b' < b → LX B.2.2 B.1 (sg * B.2.1) (er N d b' P') b' P')
abbrev LXb (sg : Int) (u v : Bes) : Prop := LX u.2.2 u.1 (sg * u.2.1) v.2.2 v.1 (sg * v.2.1)
theorem lk_lx {sg : Int} {b a t : Nat} {B : Bes} (hB : 0 < B.1) (ho : B.1 < b ∨ (B.1 = b ∧ sg * B.2.1 ≤ sg * a)) : (lkB b a t B = B ∨ lkB b a t B = (b, a, t)) ∧ LXb sg (lkB b a t B) B ∧ LXb sg (lkB b a t B) (b, a, t) := by
  unfold lkB
  by_cases c : t * B.1 < B.2.2 * b
  · rw [if_neg (fun z => z.2 c)]
    refine ⟨Or.inr rfl, Or.inl ?_, LX.rf _ _ _⟩
    show (t : Int) * (B.1 : Int) < (B.2.2 : Int) * (b : Int)
    rw [← Int.natCast_mul, ← Int.natCast_mul]
    omega
  · rw [if_pos ⟨hB, c⟩]
    refine ⟨Or.inl rfl, LX.rf _ _ _, ?_⟩
    show (B.2.2 : Int) * (b : Int) < (t : Int) * (B.1 : Int) ∨ ((B.2.2 : Int) * (b : Int) = (t : Int) * (B.1 : Int) ∧ ((B.1 : Int) < (b : Int) ∨ ((B.1 : Int) = (b : Int) ∧ sg * (B.2.1 : Int) ≤ sg * (a : Int))))
    rw [← Int.natCast_mul, ← Int.natCast_mul]
    omega
theorem er_lo {N d b P : Int} {t : Int} (h : t = N * b - P * d) (ht : 0 ≤ t) : er N d b P = t := by
  unfold er; rw [← h]; omega
theorem er_hi {N d b P : Int} {t : Int} (h : t = P * d - N * b) (ht : 0 ≤ t) : er N d b P = t := by
  unfold er
  omega
theorem cand_lx {N d b P P' t1 t2 : Int} (hd : 0 < d) (hb : 0 < b) (h1 : t1 = N * b - P * d) (h2 : t2 = (P + 1) * d - N * b) (p1 : 0 ≤ t1) (p2 : 0 ≤ t2) : LX t1 b P (er N d b P') b P' ∨ LX t2 b (P + 1) (er N d b P') b P' := by
  by_cases c : P' ≤ P
  · refine Or.inl ?_
    have hk : 0 ≤ (P - P') * d := Int.mul_nonneg (by omega) (by omega)
    have he : er N d b P' = t1 + (P - P') * d := er_lo (by rw [h1]; grind) (by omega)
    rw [he]
    by_cases c1 : P' = P
    · subst c1
      rw [Int.sub_self, Int.zero_mul, Int.add_zero]
      exact LX.rf _ _ _
    · have hk : 0 < (P - P') * d := Int.mul_pos (by omega) hd
      exact Or.inl (Int.mul_lt_mul_of_pos_right (by omega) hb)
  · refine Or.inr ?_
    have hk : 0 ≤ (P' - (P + 1)) * d := Int.mul_nonneg (by omega) (by omega)
    have he : er N d b P' = t2 + (P' - (P + 1)) * d := er_hi (by rw [h2]; grind) (by omega)
    rw [he]
    by_cases c1 : P' = P + 1
    · subst c1
      rw [Int.sub_self, Int.zero_mul, Int.add_zero]
      exact LX.rf _ _ _
    · have hk : 0 < (P' - (P + 1)) * d := Int.mul_pos (by omega) hd
      exact Or.inl (Int.mul_lt_mul_of_pos_right (by omega) hb)
theorem bs_step {N d sg : Int} {b a1 t1 a2 t2 : Nat} {B : Bes} (hd : 0 < d) (hb : 0 < b) (h1 : (t1 : Int) = N * b - sg * a1 * d) (h2 : (t2 : Int) = sg * a2 * d - N * b) (h12 : sg * a2 = sg * a1 + 1) (hI : BInv N d sg b B) : BInv N d sg (b + 1) (lkB b a2 t2 (lkB b a1 t1 B)) := by
  have hbI : (0 : Int) < (b : Int) := by omega
  have E1 : ((b, a1, t1) : Bes).2.2 = er N d b (sg * a1) := (er_lo h1 (by omega)).symm
  have E2 : ((b, a2, t2) : Bes).2.2 = er N d b (sg * a2) := (er_hi h2 (by omega)).symm
  have first : ∃ B1, lkB b a1 t1 B = B1 ∧ 0 < B1.1 ∧ (B1.1 < b ∨ (B1.1 = b ∧ sg * B1.2.1 ≤ sg * a2)) ∧ (B1.2.2 : Int) = er N d B1.1 (sg * B1.2.1) ∧ LXb sg B1 (b, a1, t1) ∧ ∀ (b' : Nat) (P' : Int), 0 < b' → b' < b → LX B1.2.2 B1.1 (sg * B1.2.1) (er N d b' P') b' P' := by
    rcases hI with ⟨z1, z2⟩ | ⟨z1, z2, z3, z4⟩
    · refine ⟨(b, a1, t1), ?_, hb, Or.inr ⟨rfl, by show sg * (a1 : Int) ≤ _; omega⟩, E1, LX.rf _ _ _, fun b' P' y1 y2 => by omega⟩
      unfold lkB
      rw [if_neg (fun y => by omega)]
    · obtain ⟨g1, g2, g3⟩ := lk_lx (sg := sg) (b := b) (a := a1) (t := t1) z1 (Or.inl z2)
      rcases g1 with g | g
      · rw [g] at g2 g3
        exact ⟨B, g, z1, Or.inl z2, z3, g3, z4⟩
      · rw [g] at g2 g3
        refine ⟨_, g, hb, Or.inr ⟨rfl, by show sg * (a1 : Int) ≤ _; omega⟩, E1, g3, fun b' P' y1 y2 => ?_⟩
        exact LX.tr hbI (by omega) (by omega) g2 (z4 b' P' y1 y2)
  obtain ⟨B1, e1, f1, f2, f3, f4, f5⟩ := first
  rw [e1]
  obtain ⟨g1, g2, g3⟩ := lk_lx (sg := sg) (b := b) (a := a2) (t := t2) f1 f2
  have hw : (lkB b a2 t2 B1).1 ≤ b ∧ 0 < (lkB b a2 t2 B1).1 ∧ ((lkB b a2 t2 B1).2.2 : Int) = er N d (lkB b a2 t2 B1).1 (sg * (lkB b a2 t2 B1).2.1) := by
    rcases g1 with g | g
    · rw [g]; exact ⟨by omega, f1, f3⟩
    · rw [g]; exact ⟨Nat.le_refl _, hb, E2⟩
  generalize lkB b a2 t2 B1 = W at *
  refine Or.inr ⟨hw.2.1, by omega, hw.2.2, fun b' P' y1 y2 => ?_⟩
  by_cases c : b' < b
  · exact LX.tr (by omega) (by omega) (by omega) g2 (f5 b' P' y1 c)
  · have : b' = b := by omega
    subst this
    rcases cand_lx (t2 := (t2 : Int)) (P' := P') hd hbI h1 (by rw [← h12]; exact h2) (by omega) (by omega) with g | g
    · exact LX.tr (by omega) (by omega) (by omega) g2 (LX.tr (by omega) (by omega) (by omega) f4 g)
    · rw [← h12] at g
      exact LX.tr (by omega) (by omega) (by omega) g3 g
theorem sgB_v {q : Qv} (hq : qok q) : (sgB q = -1 ∧ q.1 = -1) ∨ (sgB q = 1 ∧ q.1 = 1) ∨ (sgB q = 1 ∧ q.1 = 0 ∧ q.2.1 = 0) := by
  obtain ⟨h1, h2, _⟩ := hq
  unfold sgB
  rcases h1 with z | z | z
  · rw [if_neg (by omega)]; exact Or.inr (Or.inr ⟨rfl, z, h2.mp z⟩)
  · rw [if_neg (by omega)]; exact Or.inr (Or.inl ⟨rfl, z⟩)
  · rw [if_pos (by omega)]; exact Or.inl ⟨rfl, z⟩
theorem bsl_inv {q : Qv} (hq : qok q) : ∀ (k b : Nat) (B : Bes), 0 < b → BInv (sv q) q.2.2 (sgB q) b B → BInv (sv q) q.2.2 (sgB q) (b + k) (bsl q k b B)
  | 0, b, B, _, h => h
  | k + 1, b, B, hb, h => by
    have hd := hq.2.2.1
    have hdm := Nat.div_add_mod (q.2.1 * b) q.2.2
    have hml := Nat.mod_lt (q.2.1 * b) hd
    have step : BInv (sv q) q.2.2 (sgB q) (b + 1) (bsp q b B) := by
      have hI : ((q.2.1 * b : Nat) : Int) = (q.2.2 : Int) * ((q.2.1 * b / q.2.2 : Nat) : Int) + ((q.2.1 * b % q.2.2 : Nat) : Int) := by
        rw [← Int.natCast_mul]; omega
      rw [Int.natCast_mul] at hI
      have hsub : ((q.2.2 - q.2.1 * b % q.2.2 : Nat) : Int) = (q.2.2 : Int) - ((q.2.1 * b % q.2.2 : Nat) : Int) := by omega
      unfold bsp
      unfold sv at h ⊢
      generalize q.2.1 * b / q.2.2 = Q at *
      generalize q.2.1 * b % q.2.2 = R at *
      rcases sgB_v hq with ⟨g1, g2⟩ | ⟨g1, g2⟩ | ⟨g1, g2, g3⟩
      · rw [if_pos (by omega)]
        rw [g1, g2] at h ⊢
        refine bs_step (by omega) hb ?_ ?_ (by omega) h
        · rw [hsub]; push_cast; grind
        · grind
      · rw [if_neg (by omega)]
        rw [g1, g2] at h ⊢
        refine bs_step (by omega) hb ?_ ?_ (by omega) h
        · grind
        · rw [hsub]; push_cast; grind
      · rw [if_neg (by omega)]
        rw [g1, g2, g3] at h ⊢
        refine bs_step (by omega) hb ?_ ?_ (by omega) h
        · grind
        · rw [hsub]; push_cast; grind
    have := bsl_inv hq k (b + 1) (bsp q b B) (by omega) step
    rw [show b + 1 + k = b + (k + 1) by omega] at this
    exact this
