/-! ===== pure: what is added and taken away again, multiplied and divided again ===== -/
def qlow (q : Qv) : Prop := (q.1 = 0 ∨ q.1 = 1 ∨ q.1 = -1) ∧ (q.1 = 0 ↔ q.2.1 = 0) ∧ 0 < q.2.2 ∧ Nat.gcd q.2.1 q.2.2 = 1
theorem qok.low {q : Qv} (h : qok q) : qlow q := ⟨h.1, h.2.1, h.2.2.1, h.2.2.2.1⟩
theorem sg_abs {s : Int} {n : Nat} (h1 : s = 0 ∨ s = 1 ∨ s = -1) (h2 : s = 0 ↔ n = 0) : (s * (n : Int)).natAbs = n := by
  rcases h1 with h | h | h
  · rw [h, h2.mp h]; rfl
  · rw [h, Int.one_mul]; exact Int.natAbs_natCast n
  · rw [h, Int.natAbs_mul]
    show 1 * (n : Int).natAbs = n
    rw [Nat.one_mul]; exact Int.natAbs_natCast n
/-- one value, one fraction in lowest terms -/
theorem q_one {a b : Qv} (ha : qlow a) (hb : qlow b) (h : a.1 * (a.2.1 : Int) * (b.2.2 : Int) = b.1 * (b.2.1 : Int) * (a.2.2 : Int)) : a = b := by
  obtain ⟨s, n, d⟩ := a
  obtain ⟨t, m, e⟩ := b
  obtain ⟨a1, a2, a3, a4⟩ := ha
  obtain ⟨b1, b2, b3, b4⟩ := hb
  simp only at *
  have hN : n * e = m * d := by
    have := congrArg Int.natAbs h
    rw [Int.natAbs_mul (s * (n : Int)), Int.natAbs_mul (t * (m : Int)), sg_abs a1 a2, sg_abs b1 b2, Int.natAbs_natCast, Int.natAbs_natCast] at this
    exact this
  have h1 : d ∣ e := Nat.Coprime.dvd_of_dvd_mul_left (show Nat.Coprime d n by unfold Nat.Coprime; rw [Nat.gcd_comm]; exact a4) ⟨m, by rw [hN, Nat.mul_comm]⟩
  have h2 : e ∣ d := Nat.Coprime.dvd_of_dvd_mul_left (show Nat.Coprime e m by unfold Nat.Coprime; rw [Nat.gcd_comm]; exact b4) ⟨n, by rw [← hN, Nat.mul_comm]⟩
  have hde : d = e := Nat.dvd_antisymm h1 h2
  subst hde
  have hnm : n = m := Nat.eq_of_mul_eq_mul_right a3 hN
  subst hnm
  have hst : s = t := by
    by_cases c : n = 0
    · rw [a2.mpr c, b2.mpr c]
    · exact Int.eq_of_mul_eq_mul_right (show (n : Int) ≠ 0 by omega) (Int.eq_of_mul_eq_mul_right (show (d : Int) ≠ 0 by omega) h)
  rw [hst]
theorem qmk_val {s : Int} {x y : Nat} : (qmk s x y).1 * ((qmk s x y).2.1 : Int) * (y : Int) = s * (x : Int) * ((qmk s x y).2.2 : Int) := by
  show (if x = 0 then 0 else s) * ((x / Nat.gcd x y : Nat) : Int) * (y : Int) = s * (x : Int) * ((y / Nat.gcd x y : Nat) : Int)
  by_cases c : x = 0
  · subst c
    rw [if_pos rfl]
    simp
  · rw [if_neg c]
    have e1 : x / Nat.gcd x y * y = x * (y / Nat.gcd x y) := by
      have h1 := Nat.div_mul_cancel (Nat.gcd_dvd_left x y)
      have h2 := Nat.div_mul_cancel (Nat.gcd_dvd_right x y)
      generalize Nat.gcd x y = g at *
      generalize x / g = u at *
      generalize y / g = v at *
      rw [← h1, ← h2]
      simp only [Nat.mul_comm, Nat.mul_left_comm, Nat.mul_assoc]
    rw [Int.mul_assoc, Int.mul_assoc, ← Int.natCast_mul, ← Int.natCast_mul, e1]
theorem qmk_lw {s : Int} {x y : Nat} (hy : 0 < y) (hs : s = 0 ∨ s = 1 ∨ s = -1) (h0 : x ≠ 0 → s ≠ 0) : qlow (qmk s x y) := by
  obtain ⟨g1, g2⟩ := qmk_gcd (s := s) (x := x) hy
  have hg : 0 < Nat.gcd x y := Nat.gcd_pos_of_pos_right _ hy
  refine ⟨?_, ?_, g1, g2⟩
  · show (if x = 0 then (0 : Int) else s) = 0 ∨ (if x = 0 then (0 : Int) else s) = 1 ∨ (if x = 0 then (0 : Int) else s) = -1
    split
    · exact Or.inl rfl
    · exact hs
  · show (if x = 0 then (0 : Int) else s) = 0 ↔ x / Nat.gcd x y = 0
    by_cases c : x = 0
    · rw [if_pos c, c, Nat.zero_div]
      exact ⟨fun _ => rfl, fun _ => rfl⟩
    · rw [if_neg c]
      have h1 := Nat.div_mul_cancel (Nat.gcd_dvd_left x y)
      exact ⟨fun z => absurd z (h0 c), fun z => absurd (by rw [← h1, z, Nat.zero_mul]) c⟩
theorem jn_val {s t : Int} {X Y : Nat} (hs : s = 0 ∨ s = 1 ∨ s = -1) (ht : t = 0 ∨ t = 1 ∨ t = -1) (hx : s = 0 → X = 0) (hy : t = 0 → Y = 0) : jnS s t X Y * (jnN s t X Y : Int) = s * (X : Int) + t * (Y : Int) := by
  rcases hs with rfl | rfl | rfl <;> rcases ht with rfl | rfl | rfl <;> simp at hx hy <;> (try subst hx) <;> (try subst hy) <;> unfold jnS jnN <;> simp <;> (repeat' split) <;> omega
theorem jn_sg {s t : Int} {X Y : Nat} (hs : s = 0 ∨ s = 1 ∨ s = -1) (ht : t = 0 ∨ t = 1 ∨ t = -1) : jnS s t X Y = 0 ∨ jnS s t X Y = 1 ∨ jnS s t X Y = -1 := by
  unfold jnS
  repeat' split
  all_goals first | assumption | exact Or.inl rfl
theorem cmul_eq {a b c : Int} (hc : c ≠ 0) (h : a * c = b * c) : a = b := Int.eq_of_mul_eq_mul_right hc h
theorem poly_add {a b c d e f g h s t u w : Int} (v1 : u * a * (f * h) = (s * (e * h) + t * (g * f)) * b) (v2 : w * c * (b * h) = (u * (a * h) + -t * (g * b)) * d) : w * c * f * b * h = s * e * d * b * h := by grind
theorem poly_mul {a b c d e f g h s t u w : Int} (v1 : u * a * (f * h) = s * t * (e * g) * b) (v2 : w * c * (b * g) = u * t * (a * h) * d) (tt : t * t = 1) : w * c * f * b * g = s * e * d * b * g := by grind
/-- a + b - b -/
theorem add_back {p q q1 q2 : Qv} (hp : qok p) (hq : qok q) (h1 : q1 = qmk (jnS p.1 q.1 (p.2.1 * q.2.2) (q.2.1 * p.2.2)) (jnN p.1 q.1 (p.2.1 * q.2.2) (q.2.1 * p.2.2)) (p.2.2 * q.2.2))
    (h2 : q2 = qmk (jnS q1.1 (-q.1) (q1.2.1 * q.2.2) (q.2.1 * q1.2.2)) (jnN q1.1 (-q.1) (q1.2.1 * q.2.2) (q.2.1 * q1.2.2)) (q1.2.2 * q.2.2)) : qlow q1 ∧ q2 = p := by
  have hd := hp.2.2.1
  have hd' := hq.2.2.1
  have nz : ∀ {s t : Int} {X Y : Nat}, (s = 0 ∨ s = 1 ∨ s = -1) → (t = 0 ∨ t = 1 ∨ t = -1) → (s = 0 ↔ X = 0) → (t = 0 ↔ Y = 0) → jnN s t X Y ≠ 0 → jnS s t X Y ≠ 0 := fun a b c d e => by
    rcases jn_nz a b c d e with z | z <;> rw [z] <;> decide
  have mz : ∀ {s : Int} {n D : Nat}, 0 < D → (s = 0 ↔ n = 0) → (s = 0 ↔ n * D = 0) := fun hD h => by
    rw [h, Nat.mul_eq_zero]
    exact ⟨Or.inl, fun z => z.resolve_right (by omega)⟩
  have l1 : qlow q1 := by
    rw [h1]
    exact qmk_lw (Nat.mul_pos hd hd') (jn_sg hp.1 hq.1) (nz hp.1 hq.1 (mz hd' hp.2.1) (mz hd hq.2.1))
  have hng : -q.1 = 0 ∨ -q.1 = 1 ∨ -q.1 = -1 := by rcases hq.1 with z | z | z <;> rw [z] <;> decide
  have hn0 : -q.1 = 0 ↔ q.2.1 = 0 := by rw [← hq.2.1]; omega
  have l2 : qlow q2 := by
    rw [h2]
    exact qmk_lw (Nat.mul_pos l1.2.2.1 hd') (jn_sg l1.1 hng) (nz l1.1 hng (mz hd' l1.2.1) (mz l1.2.2.1 hn0))
  refine ⟨l1, q_one l2 hp.low ?_⟩
  have v1 : q1.1 * (q1.2.1 : Int) * ((p.2.2 * q.2.2 : Nat) : Int) = (p.1 * ((p.2.1 * q.2.2 : Nat) : Int) + q.1 * ((q.2.1 * p.2.2 : Nat) : Int)) * (q1.2.2 : Int) := by
    rw [h1, qmk_val, jn_val hp.1 hq.1 (fun z => ((mz hd' hp.2.1).mp z)) (fun z => (mz hd hq.2.1).mp z)]
  have v2 : q2.1 * (q2.2.1 : Int) * ((q1.2.2 * q.2.2 : Nat) : Int) = (q1.1 * ((q1.2.1 * q.2.2 : Nat) : Int) + -q.1 * ((q.2.1 * q1.2.2 : Nat) : Int)) * (q2.2.2 : Int) := by
    rw [h2, qmk_val, jn_val l1.1 hng (fun z => (mz hd' l1.2.1).mp z) (fun z => (mz l1.2.2.1 hn0).mp z)]
  have n1 : (q1.2.2 : Int) ≠ 0 := by have := l1.2.2.1; omega
  have n2 : (q.2.2 : Int) ≠ 0 := by omega
  refine cmul_eq n1 (cmul_eq n2 ?_)
  simp only [Int.natCast_mul] at v1 v2
  generalize (q1.2.1 : Int) = a at *
  generalize (q1.2.2 : Int) = b at *
  generalize (q2.2.1 : Int) = c at *
  generalize (q2.2.2 : Int) = d at *
  generalize (p.2.1 : Int) = e at *
  generalize (p.2.2 : Int) = f at *
  generalize (q.2.1 : Int) = g at *
  generalize (q.2.2 : Int) = h at *
  generalize p.1 = s at *
  generalize q.1 = t at *
  generalize q1.1 = u at *
  generalize q2.1 = w at *
  exact poly_add v1 v2
/-- a * b / b -/
theorem mul_back {p q q1 q2 : Qv} (hp : qok p) (hq : qok q) (h0 : q.1 ≠ 0) (h1 : q1 = qmk (p.1 * q.1) (p.2.1 * q.2.1) (p.2.2 * q.2.2)) (h2 : q2 = qmk (q1.1 * q.1) (q1.2.1 * q.2.2) (q1.2.2 * q.2.1)) : qlow q1 ∧ q2 = p := by
  have hd := hp.2.2.1
  have hd' := hq.2.2.1
  have hn0 : q.2.1 ≠ 0 := fun z => h0 (hq.2.1.mpr z)
  have sg : ∀ {s t : Int}, (s = 0 ∨ s = 1 ∨ s = -1) → (t = 0 ∨ t = 1 ∨ t = -1) → (s * t = 0 ∨ s * t = 1 ∨ s * t = -1) := fun a b => by
    rcases a with z | z | z <;> rcases b with y | y | y <;> rw [z, y] <;> decide
  have l1 : qlow q1 := by
    rw [h1]
    refine qmk_lw (Nat.mul_pos hd hd') (sg hp.1 hq.1) (fun z y => ?_)
    rcases Int.mul_eq_zero.mp y with x | x
    · exact z (by rw [hp.2.1.mp x, Nat.zero_mul])
    · exact h0 x
  have l2 : qlow q2 := by
    rw [h2]
    refine qmk_lw (Nat.mul_pos l1.2.2.1 (by omega)) (sg l1.1 hq.1) (fun z y => ?_)
    rcases Int.mul_eq_zero.mp y with x | x
    · exact z (by rw [l1.2.1.mp x, Nat.zero_mul])
    · exact h0 x
  refine ⟨l1, q_one l2 hp.low ?_⟩
  have v1 : q1.1 * (q1.2.1 : Int) * ((p.2.2 * q.2.2 : Nat) : Int) = p.1 * q.1 * ((p.2.1 * q.2.1 : Nat) : Int) * (q1.2.2 : Int) := by rw [h1, qmk_val]
  have v2 : q2.1 * (q2.2.1 : Int) * ((q1.2.2 * q.2.1 : Nat) : Int) = q1.1 * q.1 * ((q1.2.1 * q.2.2 : Nat) : Int) * (q2.2.2 : Int) := by rw [h2, qmk_val]
  have tt : q.1 * q.1 = 1 := by
    rcases hq.1 with z | z | z
    · exact absurd z h0
    · rw [z]; rfl
    · rw [z]; rfl
  have n1 : (q1.2.2 : Int) ≠ 0 := by have := l1.2.2.1; omega
  have n2 : (q.2.1 : Int) ≠ 0 := by omega
  refine cmul_eq n1 (cmul_eq n2 ?_)
  simp only [Int.natCast_mul] at v1 v2
  generalize (q1.2.1 : Int) = a at *
  generalize (q1.2.2 : Int) = b at *
  generalize (q2.2.1 : Int) = c at *
  generalize (q2.2.2 : Int) = d at *
  generalize (p.2.1 : Int) = e at *
  generalize (p.2.2 : Int) = f at *
  generalize (q.2.1 : Int) = g at *
  generalize (q.2.2 : Int) = h at *
  generalize p.1 = s at *
  generalize q.1 = t at *
  generalize q1.1 = u at *
  generalize q2.1 = w at *
  exact poly_mul v1 v2 tt
