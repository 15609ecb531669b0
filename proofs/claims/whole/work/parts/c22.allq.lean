/-! ===== pure: what all values of a row make, in lowest terms at each step or at the end ===== -/
theorem qmk_g {s : Int} {x y g : Nat} (hg : 0 < g) : qmk s (x * g) (y * g) = qmk s x y := by
  unfold qmk
  rw [Nat.gcd_mul_right, Nat.mul_div_mul_right _ _ hg, Nat.mul_div_mul_right _ _ hg]
  by_cases c : x = 0
  · rw [if_pos c, if_pos (by rw [c, Nat.zero_mul])]
  · rw [if_neg c, if_neg (fun z => by rcases Nat.mul_eq_zero.mp z with q | q <;> omega)]
theorem qmk_low {s : Int} {x y : Nat} (hg : Nat.gcd x y = 1) (h0 : x = 0 → s = 0) : qmk s x y = (s, x, y) := by
  unfold qmk
  rw [hg, Nat.div_one, Nat.div_one]
  by_cases c : x = 0
  · rw [if_pos c, h0 c]
  · rw [if_neg c]
/-- an amount, and the same in lowest terms -/
def Lq (b : Acc) (a : Qv) : Prop := ∃ g, 0 < g ∧ b.1 = a.1 ∧ b.2.1 = a.2.1 * g ∧ b.2.2 = a.2.2 * g
theorem Lq.of {s : Int} {x y g : Nat} (hg : 0 < g) (hy : 0 < y) (h0 : x = 0 → s = 0) : Lq (s, x * g, y * g) (qmk s x y) := by
  have hgp : 0 < Nat.gcd x y := Nat.gcd_pos_of_pos_right _ hy
  refine ⟨Nat.gcd x y * g, Nat.mul_pos hgp hg, ?_, ?_, ?_⟩
  · show s = if x = 0 then 0 else s
    by_cases c : x = 0
    · rw [if_pos c, h0 c]
    · rw [if_neg c]
  · show x * g = x / Nat.gcd x y * (Nat.gcd x y * g)
    rw [← Nat.mul_assoc, Nat.div_mul_cancel (Nat.gcd_dvd_left x y)]
  · show y * g = y / Nat.gcd x y * (Nat.gcd x y * g)
    rw [← Nat.mul_assoc, Nat.div_mul_cancel (Nat.gcd_dvd_right x y)]
theorem tot_sum : ∀ (vs : List Qv) (k : Nat) (b : Acc) (a : Qv), (∀ v ∈ vs, qok v) → Aok k b → Lq b a → 0 < a.2.2 → Lq (sumF vs b) (totQ 0 vs a)
  | [], _, _, _, _, _, h, _ => h
  | v :: vs, k, b, a, hv, hb, h, hp => by
    have hq := hv v List.mem_cons_self
    have hb2 := hb.sum hq
    obtain ⟨g, hg, e1, e2, e3⟩ := h
    have hD := Nat.mul_pos hp hq.2.2.1
    have x1 : b.2.1 * v.2.2 = a.2.1 * v.2.2 * g := by rw [e2, Nat.mul_right_comm]
    have x2 : v.2.1 * b.2.2 = v.2.1 * a.2.2 * g := by rw [e3, Nat.mul_assoc]
    have x3 : b.2.2 * v.2.2 = a.2.2 * v.2.2 * g := by rw [e3, Nat.mul_right_comm]
    refine tot_sum vs (k + 1) _ _ (fun w hw => hv w (List.mem_cons_of_mem _ hw)) hb2 ?_ (by rw [if_pos rfl]; exact (qmk_gcd hD).1)
    rw [if_pos rfl]
    have hz := hb2.2.1
    rw [x1, x2, x3, e1, jnS_mul hg, jnN_mul hg] at *
    refine Lq.of hg hD (fun z => hz.mpr ?_)
    show jnN a.1 v.1 (a.2.1 * v.2.2) (v.2.1 * a.2.2) * g = 0
    rw [z, Nat.zero_mul]
