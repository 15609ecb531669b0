/-! ===== pure: what all values of a row make, in lowest terms at each step or at the end ===== -/
theorem qmk_g {s : Int} {x y g : Nat} (hg : 0 < g) : qmk s (x * g) (y * g) = qmk s x y := by
  unfold qmk
  rw [Nat.gcd_mul_right, Nat.mul_div_mul_right _ _ hg, Nat.mul_div_mul_right _ _ hg]
  by_cases c : x = 0
  · rw [if_pos c, if_pos (by rw [c, Nat.zero_mul])]
  · rw [if_neg c, if_neg (fun z => by rcases Nat.mul_eq_zero.mp z with q | q <;> omega)]
theorem qmk_low {s : Int} {x y : Nat} (hg : Nat.gcd x y = 1) (h0 : x = 0 → s = 0) : qmk s x y = (s, x, y) := by
  unfold qmk
  rw [hg, Nat.div_one, Nat.div_one]
  by_cases c : x = 0
  · rw [if_pos c, h0 c]
  · rw [if_neg c]
/-- an amount, and the same in lowest terms -/
def Lq (b : Acc) (a : Qv) : Prop := ∃ g, 0 < g ∧ b.1 = a.1 ∧ b.2.1 = a.2.1 * g ∧ b.2.2 = a.2.2 * g
theorem Lq.of {s : Int} {x y g : Nat} (hg : 0 < g) (hy : 0 < y) (h0 : x = 0 → s = 0) : Lq (s, x * g, y * g) (qmk s x y) := by
  have hgp : 0 < Nat.gcd x y := Nat.gcd_pos_of_pos_right _ hy
  refine ⟨Nat.gcd x y * g, Nat.mul_pos hgp hg, ?_, ?_, ?_⟩
  · show s = if x = 0 then 0 else s
    by_cases c : x = 0
    · rw [if_pos c, h0 c]
    · rw [if_neg c]
  · show x * g = x / Nat.gcd x y * (Nat.gcd x y * g)
    rw [← Nat.mul_assoc, Nat.div_mul_cancel (Nat.gcd_dvd_left x y)]
  · show y * g = y / Nat.gcd x y * (Nat.gcd x y * g)
    rw [← Nat.mul_assoc, Nat.div_mul_cancel (Nat.gcd_dvd_right x y)]
theorem tot_sum : ∀ (vs : List Qv) (k : Nat) (b : Acc) (a : Qv), (∀ v ∈ vs, qok v) → Aok k b → Lq b a → 0 < a.2.2 → Lq (sumF vs b) (totQ 0 vs a)
  | [], _, _, _, _, _, h, _ => h
  | v :: vs, k, b, a, hv, hb, h, hp => by
    have hq := hv v List.mem_cons_self
    have hb2 := hb.sum hq
    obtain ⟨g, hg, e1, e2, e3⟩ := h
    have hD := Nat.mul_pos hp hq.2.2.1
    have x1 : b.2.1 * v.2.2 = a.2.1 * v.2.2 * g := by rw [e2, Nat.mul_right_comm]
    have x2 : v.2.1 * b.2.2 = v.2.1 * a.2.2 * g := by rw [e3, Nat.mul_assoc]
    have x3 : b.2.2 * v.2.2 = a.2.2 * v.2.2 * g := by rw [e3, Nat.mul_right_comm]
    refine tot_sum vs (k + 1) _ _ (fun w hw => hv w (List.mem_cons_of_mem _ hw)) hb2 ?_ (by rw [if_pos rfl]; exact (qmk_gcd hD).1)
    rw [if_pos rfl]
    have hz := hb2.2.1
    rw [x1, x2, x3, e1, jnS_mul hg, jnN_mul hg] at *
    refine Lq.of hg hD (fun z => hz.mpr ?_)
    show jnN a.1 v.1 (a.2.1 * v.2.2) (v.2.1 * a.2.2) * g = 0
    rw [z, Nat.zero_mul]
theorem tot_prd : ∀ (vs : List Qv) (k : Nat) (b : Acc) (a : Qv), (∀ v ∈ vs, qok v) → Aok k b → Lq b a → 0 < a.2.2 → Lq (prdF vs b) (totQ 1 vs a)
  | [], _, _, _, _, _, h, _ => h
  | v :: vs, k, b, a, hv, hb, h, hp => by
    have hq := hv v List.mem_cons_self
    have hb2 := hb.prd hq
    obtain ⟨g, hg, e1, e2, e3⟩ := h
    have hD := Nat.mul_pos hp hq.2.2.1
    have x1 : b.2.1 * v.2.1 = a.2.1 * v.2.1 * g := by rw [e2, Nat.mul_right_comm]
    have x3 : b.2.2 * v.2.2 = a.2.2 * v.2.2 * g := by rw [e3, Nat.mul_right_comm]
    refine tot_prd vs (k + 1) _ _ (fun w hw => hv w (List.mem_cons_of_mem _ hw)) hb2 ?_ (by rw [if_neg (by decide)]; exact (qmk_gcd hD).1)
    rw [if_neg (by decide)]
    have hz := hb2.2.1
    rw [x1, x3, e1] at *
    refine Lq.of hg hD (fun z => hz.mpr ?_)
    show a.2.1 * v.2.1 * g = 0
    rw [z, Nat.zero_mul]
theorem tot_gcd {f : Nat} : ∀ (vs : List Qv) (a : Qv), (∀ v ∈ vs, qok v) → 0 < a.2.2 → Nat.gcd a.2.1 a.2.2 = 1 → 0 < (totQ f vs a).2.2 ∧ Nat.gcd (totQ f vs a).2.1 (totQ f vs a).2.2 = 1
  | [], _, _, h1, h2 => ⟨h1, h2⟩
  | v :: vs, a, hv, h1, h2 => by
    have hq := hv v List.mem_cons_self
    have hD := Nat.mul_pos h1 hq.2.2.1
    have key : ∀ (s : Int) (x : Nat), 0 < (qmk s x (a.2.2 * v.2.2)).2.2 ∧ Nat.gcd (qmk s x (a.2.2 * v.2.2)).2.1 (qmk s x (a.2.2 * v.2.2)).2.2 = 1 := fun s x => qmk_gcd hD
    by_cases c : f = 0
    · have e : totQ f (v :: vs) a = totQ f vs (qmk (jnS a.1 v.1 (a.2.1 * v.2.2) (v.2.1 * a.2.2)) (jnN a.1 v.1 (a.2.1 * v.2.2) (v.2.1 * a.2.2)) (a.2.2 * v.2.2)) := by
        show totQ f vs (if f = 0 then _ else _) = _
        rw [if_pos c]
      rw [e]
      exact tot_gcd vs _ (fun w hw => hv w (List.mem_cons_of_mem _ hw)) (key _ _).1 (key _ _).2
    · have e : totQ f (v :: vs) a = totQ f vs (qmk (a.1 * v.1) (a.2.1 * v.2.1) (a.2.2 * v.2.2)) := by
        show totQ f vs (if f = 0 then _ else _) = _
        rw [if_neg c]
      rw [e]
      exact tot_gcd vs _ (fun w hw => hv w (List.mem_cons_of_mem _ hw)) (key _ _).1 (key _ _).2
/-- the class' way and the reference's make the same -/
theorem alc_all {w : Nat} {vs : List Qv} (hw : w ≤ 2) (hv : ∀ v ∈ vs, qok v) : alc w vs = allQ w vs := by
  have a0 : Aok 0 (0, 0, 1) := ⟨⟨by decide, by decide⟩, ⟨fun _ => rfl, fun _ => rfl⟩, Nat.one_pos, by decide, by decide⟩
  have a1 : Aok 0 (1, 1, 1) := ⟨⟨by decide, by decide⟩, ⟨fun z => (by have z : (1 : Int) = 0 := z; omega), fun z => (by have z : (1 : Nat) = 0 := z; omega)⟩, Nat.one_pos, by decide, by decide⟩
  have s0 : Lq (sumF vs (0, 0, 1)) (totS 0 vs) := tot_sum vs 0 _ _ hv a0 ⟨1, Nat.one_pos, rfl, rfl, rfl⟩ Nat.one_pos
  have s1 : Lq (prdF vs (1, 1, 1)) (totS 1 vs) := tot_prd vs 0 _ _ hv a1 ⟨1, Nat.one_pos, rfl, rfl, rfl⟩ Nat.one_pos
  have low : ∀ f, qmk (totS f vs).1 (totS f vs).2.1 (totS f vs).2.2 = totS f vs := fun f => by
    have hs := totS_sq (f := f) hv
    have hg : Nat.gcd (totS f vs).2.1 (totS f vs).2.2 = 1 := by
      unfold totS
      by_cases c : f = 0
      · rw [if_pos c]
        exact (tot_gcd vs _ hv Nat.one_pos (Nat.gcd_one_right _)).2
      · rw [if_neg c]
        exact (tot_gcd vs _ hv Nat.one_pos (Nat.gcd_one_right _)).2
    exact qmk_low hg (fun z => hs.2.1.mpr z)
  have fin : ∀ (b : Acc) (a : Qv) (n : Nat), Lq b a → qmk b.1 b.2.1 (b.2.2 * n) = qmk a.1 a.2.1 (a.2.2 * n) := fun b a n h => by
    obtain ⟨g, hg, e1, e2, e3⟩ := h
    rw [e1, e2, e3, Nat.mul_right_comm, qmk_g hg]
  unfold alc allQ allF
  by_cases c2 : w = 2
  · rw [if_pos c2, if_pos c2, if_neg (show ¬ w = 1 by omega), if_neg (show ¬ (1 : Nat) = 0 by decide), Int.mul_one, Nat.mul_one]
    exact (fin _ _ _ s0).symm
  · rw [if_neg c2, if_neg c2]
    by_cases c1 : w = 1
    · rw [if_pos c1, if_pos c1, if_pos rfl, ← low 1]
      have := fin _ _ 1 s1
      rw [Nat.mul_one, Nat.mul_one] at this
      rw [low 1, this, low 1]
    · rw [if_neg c1, if_neg c1, if_neg (show ¬ (1 : Nat) = 0 by decide), ← low 0]
      have := fin _ _ 1 s0
      rw [Nat.mul_one, Nat.mul_one] at this
      rw [low 0, this, low 0]
