/-! ===== the start: what the class holds ===== -/
def Vw (x kw tn : Nat) (σ : St) : Prop := (0 < x ∧ sz σ = x + 144) ∧
  ((∀ o, o < 98 → sK σ (x + o) = (lkK cK o).1 ∧ sN σ (x + o) = (lkK cK o).2) ∧ (∀ f o, o < 98 → sF σ f (x + o) = rl x (lk2 cF_ f o)) ∧ (∀ f o, o < 98 → sI σ f (x + o) = il (lk2 cI f o)) ∧ (∀ o i, o < 98 → sA σ (x + o) i = il (lk2 cA o i)) ∧ ∀ o i, o < 98 → sQ σ (x + o) i = rl x (lk2 cQ o i)) ∧
  (∀ r, sK σ r = 8 → ∃ o, o < 98 ∧ r = x + o) ∧ (sK σ 0 = 0 ∧ ∀ a, x + 144 ≤ a → sK σ a = 0) ∧
  (sF σ 9001 0 = kw ∧ kw < x ∧ sK σ kw = 150 ∧ sN σ kw = 11 ∧ ∀ i, sA σ kw i = kwf i) ∧ (sF σ 9002 0 = tn ∧ tn < x ∧ sK σ tn = 150 ∧ sN σ tn = 10 ∧ ∀ i, sA σ tn i = tnf i)
def kst0 : Kst := ([], -1, (-1, -1, -1, []), (0, 0, 1), [(0, 0, 1), (0, 0, 1), (0, 0, 1), (0, 0, 1), (0, 0, 1), (0, 0, 1), (0, 0, 1), (0, 0, 1), (0, 0, 1), (0, 0, 1)], [], [], 0, [([], [], [[], [], []])])
section
variable {x kw tn : Nat} {σ : St}
theorem vw_k (h : Vw x kw tn σ) {o κ n : Nat} (ho : o < 98) (e : lkK cK o = (κ, n)) : sK σ (x + o) = κ ∧ sN σ (x + o) = n := by
  obtain ⟨h1, h2⟩ := h.2.1.1 o ho
  rw [e] at h1 h2
  exact ⟨h1, h2⟩
theorem vw_f (h : Vw x kw tn σ) {f o t : Nat} (ho : o < 98) (e : lk2 cF_ f o = some t) : sF σ f (x + o) = x + t := by rw [h.2.1.2.1 f o ho, e]; rfl
theorem vw_i (h : Vw x kw tn σ) {f o : Nat} {v : Int} (ho : o < 98) (e : lk2 cI f o = some v) : sI σ f (x + o) = iz v := by rw [h.2.1.2.2.1 f o ho, e]; rfl
theorem vw_i0 (h : Vw x kw tn σ) {f o : Nat} (ho : o < 98) (e : lk2 cI f o = none) : sI σ f (x + o) = nI 0 := by rw [h.2.1.2.2.1 f o ho, e]; rfl
theorem vw_q (h : Vw x kw tn σ) {o i t : Nat} (ho : o < 98) (e : lk2 cQ o i = some t) : sQ σ (x + o) i = x + t := by rw [h.2.1.2.2.2.2 o i ho, e]; rfl
/-- each Nat's limbs lie behind it -/
theorem vw_nats : ∀ o, o < 98 → (lkK cK o).1 = 8 → lk2 cF_ (fid 7 0) o = some (o + 1) ∧ lkK cK (o + 1) = (100, 4) ∧ o + 1 < 98 := by decide +kernel
theorem vw_lb (h : Vw x kw tn σ) {o : Nat} (ho : o < 98) (e : (lkK cK o).1 = 8) : lb σ (x + o) = x + (o + 1) := vw_f h ho (vw_nats o ho e).1
theorem vw_8 (h : Vw x kw tn σ) {r : Nat} (hr : sK σ r = 8) : ∃ o, o < 98 ∧ r = x + o ∧ (lkK cK o).1 = 8 := by
  obtain ⟨o, h1, h2⟩ := h.2.2.1 r hr
  subst h2
  exact ⟨o, h1, rfl, ((h.2.1.1 o h1).1).symm.trans hr⟩
theorem vw_own (h : Vw x kw tn σ) : Own σ := by
  refine ⟨⟨h.2.2.2.1.1, fun a ha => h.2.2.2.1.2 a (by rw [h.1.2] at ha; exact ha)⟩, fun a ha => ?_⟩
  obtain ⟨o, h1, rfl, h3⟩ := vw_8 h ha
  obtain ⟨_, g2, g3⟩ := vw_nats o h1 h3
  rw [vw_lb h h1 h3]
  refine ⟨(vw_k h g3 g2).1, fun b hb e => ?_⟩
  obtain ⟨o', h4, rfl, h6⟩ := vw_8 h hb
  rw [vw_lb h h4 h6] at e
  omega
theorem vw_nl (h : Vw x kw tn σ) {r : Nat} (hr : ∀ o, o < 98 → (lkK cK o).1 = 8 → r ≠ x + (o + 1)) : NL σ r := by
  intro a ha e
  obtain ⟨o, h1, rfl, h3⟩ := vw_8 h ha
  rw [vw_lb h h1 h3] at e
  exact hr o h1 h3 e.symm
theorem vw_n0 (h : Vw x kw tn σ) {o : Nat} (ho : o < 98) (e : (lkK cK o).1 = 8) (e2 : lk2 cI (fid 7 1) o = none) : Nt σ (x + o) 0 := by
  obtain ⟨g1, g2, g3⟩ := vw_nats o ho e
  exact ⟨x + (o + 1), 4, 0, ⟨(h.2.1.1 o ho).1.trans e, vw_f h ho g1, (vw_k h g3 g2).1, (vw_k h g3 g2).2, by omega, by omega⟩, ⟨vw_i0 h ho e2, fun k hk => absurd hk (Nat.not_lt_zero _), by rw [Nat.pow_zero]; omega⟩, by omega, Or.inl rfl⟩
theorem vw_n1 (h : Vw x kw tn σ) {o : Nat} (ho : o < 98) (e : (lkK cK o).1 = 8) (e2 : lk2 cI (fid 7 1) o = some 1) (e3 : lk2 cA (o + 1) 0 = some 1) : Nt σ (x + o) 1 := by
  obtain ⟨g1, g2, g3⟩ := vw_nats o ho e
  refine ⟨x + (o + 1), 4, 1, ⟨(h.2.1.1 o ho).1.trans e, vw_f h ho g1, (vw_k h g3 g2).1, (vw_k h g3 g2).2, by omega, by omega⟩, ⟨vw_i h ho e2, fun k hk => ?_, by rw [Nat.pow_one]; omega⟩, by omega, Or.inr (by rw [Nat.sub_self, Nat.pow_zero]; omega)⟩
  have hk : k = 0 := by omega
  subst hk
  rw [h.2.1.2.2.2.1 (o + 1) 0 g3, e3]
  rfl
theorem vw_hp (h : Vw x kw tn σ) : HP (PX x) σ := by
  refine ⟨vw_own h, fun a ha => ?_⟩
  simp only [List.mem_cons, List.not_mem_nil, or_false] at ha
  rcases ha with rfl | rfl | rfl | rfl | rfl | rfl | rfl | rfl | rfl | rfl | rfl | rfl | rfl | rfl | rfl | rfl | rfl | rfl | rfl | rfl | rfl | rfl | rfl
  all_goals first
    | exact ⟨0, vw_n0 h (by omega) rfl rfl⟩
    | exact ⟨1, vw_n1 h (by omega) rfl rfl rfl⟩
theorem vw_xs (h : Vw x kw tn σ) : XS σ x := by
  have b1 : ∀ p ∈ xK, p.1 < 98 ∧ (lkK cK p.1).1 = p.2 := by decide +kernel
  have b2 : ∀ p ∈ xF, p.2.1 < 98 ∧ lk2 cF_ p.1 p.2.1 = some p.2.2 := by decide +kernel
  have b3 : ∀ p ∈ xN, p.1 < 98 ∧ (lkK cK p.1).2 = p.2 := by decide +kernel
  have b4 : ∀ o ∈ xA, ∀ o', o' < 98 → (lkK cK o').1 = 8 → o ≠ o' + 1 := by decide +kernel
  refine ⟨⟨h.1.1, by rw [h.1.2]; omega⟩, fun p hp => ?_, fun p hp => ?_, fun p hp => ?_, fun o ho => ?_⟩
  · obtain ⟨g1, g2⟩ := b1 p hp
    exact (h.2.1.1 _ g1).1.trans g2
  · obtain ⟨g1, g2⟩ := b2 p hp
    exact vw_f h g1 g2
  · obtain ⟨g1, g2⟩ := b3 p hp
    exact (h.2.1.1 _ g1).2.trans g2
  · exact vw_nl h (fun o' h1 h2 e => b4 o ho o' h1 h2 (by omega))
theorem vw_q0 (h : Vw x kw tn σ) {T i : Nat} (hT : tMu T) : sQ σ (x + T) i = 0 := by
  have b : ∀ e ∈ cQ, e.1 ≠ 76 ∧ e.1 ≠ 13 ∧ e.1 ≠ 16 := by decide
  have hn : lk2 cQ T i = none := by
    unfold lk2
    rw [List.find?_eq_none.mpr]
    · rfl
    · intro e he
      have := b e he
      simp only [Bool.and_eq_true, beq_iff_eq, not_and]
      rcases hT with rfl | rfl | rfl <;> omega
  rw [h.2.1.2.2.2.2 T i (by rcases hT with rfl | rfl | rfl <;> omega), hn]
  rfl
theorem vw_fx3 (h : Vw x kw tn σ) : KF σ x (x + 3) (0, 0, 1) := by
  refine ⟨Or.inr rfl, fun T i hT => by rw [vw_q0 h hT]; have := h.1.1; omega, ⟨Or.inl rfl, ⟨fun _ => rfl, fun _ => rfl⟩, by show 0 < 1; omega, rfl, by show 0 < dig30; unfold dig30; omega, by show 1 < dig30; unfold dig30; omega⟩, ⟨(vw_k h (o := 3) (n := 0) (by omega) rfl).1, ⟨vw_f h (o := 3) (t := 4) (by omega) rfl, vw_f h (o := 3) (t := 6) (by omega) rfl⟩, ⟨(vw_k h (o := 4) (n := 0) (by omega) rfl).1, (vw_k h (o := 5) (n := 4) (by omega) rfl).1⟩, (vw_k h (o := 6) (n := 0) (by omega) rfl).1, (vw_k h (o := 7) (n := 4) (by omega) rfl).1⟩, ⟨(vw_k h (o := 3) (n := 0) (by omega) rfl).1, vw_i0 h (o := 3) (by omega) rfl⟩, vw_n0 h (o := 4) (by omega) rfl rfl, vw_n1 h (o := 6) (by omega) rfl rfl rfl⟩
theorem vw_st (h : Vw x kw tn σ) : KSt σ x (x + 85) ([], [], [[], [], []]) := by
  have hx := h.1.1
  refine ⟨⟨by omega, (vw_k h (o := 85) (n := 0) (by omega) rfl).1, rfl⟩, x + 86, x + 91, ⟨vw_f h (o := 85) (t := 86) (by omega) rfl, vw_f h (o := 85) (t := 91) (by omega) rfl⟩, ⟨⟨x + 87, x + 88, ⟨by omega, (vw_k h (o := 86) (n := 0) (by omega) rfl).1, Nat.zero_le _, Nat.zero_le _⟩, ⟨vw_f h (o := 86) (t := 87) (by omega) rfl, vw_f h (o := 86) (t := 88) (by omega) rfl⟩, ⟨⟨by omega, vw_k h (o := 87) (by omega) rfl⟩, by omega, vw_k h (o := 88) (by omega) rfl⟩, fun i e he => (by cases he), fun i e he => (by cases he)⟩, x + 89, x + 90, ⟨vw_f h (o := 86) (t := 89) (by omega) rfl, vw_f h (o := 86) (t := 90) (by omega) rfl⟩, ⟨⟨⟨by omega, fun q => by unfold mR at q; omega⟩, (vw_k h (o := 89) (n := 0) (by omega) rfl).1, (vw_k h (o := 89) (n := 0) (by omega) rfl).2, ?_⟩, ⟨by omega, fun q => by unfold mR at q; omega⟩, (vw_k h (o := 90) (n := 0) (by omega) rfl).1, (vw_k h (o := 90) (n := 0) (by omega) rfl).2, ?_⟩, fun i e he => (by cases he)⟩, ⟨by omega, vw_k h (o := 91) (by omega) rfl⟩, fun i vs hi => ?_⟩
  · have b : ∀ o', o' < 98 → (lkK cK o').1 = 8 → 89 ≠ o' + 1 := by decide +kernel
    exact vw_nl h (fun o' h1 h2 e => b o' h1 h2 (by omega))
  · have b : ∀ o', o' < 98 → (lkK cK o').1 = 8 → 90 ≠ o' + 1 := by decide +kernel
    exact vw_nl h (fun o' h1 h2 e => b o' h1 h2 (by omega))
  · have row : ∀ o, (o = 92 ∨ o = 94 ∨ o = 96) → KRow σ x (x + o) [] := by
      intro o ho
      rcases ho with rfl | rfl | rfl
      · exact ⟨⟨by omega, (vw_k h (o := 92) (n := 0) (by omega) rfl).1, Nat.zero_le _⟩, x + 93, vw_f h (o := 92) (t := 93) (by omega) rfl, ⟨by omega, vw_k h (o := 93) (by omega) rfl⟩, fun i q hi => (by cases hi)⟩
      · exact ⟨⟨by omega, (vw_k h (o := 94) (n := 0) (by omega) rfl).1, Nat.zero_le _⟩, x + 95, vw_f h (o := 94) (t := 95) (by omega) rfl, ⟨by omega, vw_k h (o := 95) (by omega) rfl⟩, fun i q hi => (by cases hi)⟩
      · exact ⟨⟨by omega, (vw_k h (o := 96) (n := 0) (by omega) rfl).1, Nat.zero_le _⟩, x + 97, vw_f h (o := 96) (t := 97) (by omega) rfl, ⟨by omega, vw_k h (o := 97) (by omega) rfl⟩, fun i q hi => (by cases hi)⟩
    match i, hi with
    | 0, hi => cases hi; rw [vw_q h (o := 91) (i := 0) (t := 92) (by omega) rfl]; exact row 92 (Or.inl rfl)
    | 1, hi => cases hi; rw [vw_q h (o := 91) (i := 1) (t := 94) (by omega) rfl]; exact row 94 (Or.inr (Or.inl rfl))
    | 2, hi => cases hi; rw [vw_q h (o := 91) (i := 2) (t := 96) (by omega) rfl]; exact row 96 (Or.inr (Or.inr rfl))
    | i + 3, hi => cases hi
theorem vw_ki (h : Vw x kw tn σ) : KI σ x 14 kst0 := by
  have hx := h.1.1
  have f3 := vw_fx3 h
  refine ⟨⟨vw_hp h, vw_xs h, ?_, ?_, fun T i hT z => absurd (vw_q0 h hT) z, fun T i T' j hT _ z => absurd (vw_q0 h hT) z⟩, ⟨⟨vw_i0 h (o := 0) (by omega) rfl, Nat.zero_le _, fun i b hb => (by cases hb), fun b hb => (by cases hb)⟩, vw_i h (o := 0) (by omega) rfl, vw_i h (o := 0) (by omega) rfl, vw_i h (o := 0) (by omega) rfl, vw_i h (o := 0) (by omega) rfl, vw_i0 h (o := 0) (by omega) rfl, Nat.zero_le _, fun i z hz => (by cases hz)⟩, ⟨?_, ⟨rfl, fun i q hi => ?_⟩, ⟨(vw_k h (o := 9) (n := 0) (by omega) rfl).1, vw_i h (o := 9) (v := 0) (by omega) rfl, vw_i0 h (o := 9) (by omega) rfl, ?_, fun i c hi => (by cases hi)⟩, Or.inl (vw_f h (o := 9) (t := 10) (by omega) rfl)⟩, ⟨⟨Or.inr rfl, vw_f h (o := 0) (t := 11) (by omega) rfl, vw_f h (o := 0) (t := 14) (by omega) rfl⟩, Or.inr ⟨Or.inl rfl, vw_i0 h (o := 11) (by omega) rfl, fun j s hj => (by cases hj)⟩⟩, ⟨⟨vw_i0 h (o := 0) (by omega) rfl, vw_i0 h (o := 0) (by omega) rfl, by show 0 < 1; omega, by show 1 ≤ 21; omega⟩, fun i A hA => ?_⟩, 0, 0, ⟨vw_i0 h (o := 65) (by omega) rfl, by omega⟩, vw_i0 h (o := 65) (by omega) rfl, by omega⟩
  · obtain ⟨g1, g2, g3, g4, g5⟩ := h.2.2.2.2.1
    refine ⟨kw, g1, g2, g3, g4, fun i w hw => ?_⟩
    rw [g5]
    have b : ∀ i, i < 11 → ∀ w, kwl[i]? = some w → kwf i = nI w := by decide
    have hl := (List.getElem?_eq_some_iff.mp hw).1
    exact b i hl w hw
  · obtain ⟨g1, g2, g3, g4, g5⟩ := h.2.2.2.2.2
    refine ⟨tn, g1, g2, g3, g4, fun i hi => ?_⟩
    rw [g5]
    have b : ∀ i, i < 10 → tnf i = nI (10 ^ i) := by decide
    exact b i hi
  · show KF σ x (sF σ (fid 15 8) x) (0, 0, 1)
    rw [show sF σ (fid 15 8) x = x + 3 from vw_f h (o := 0) (t := 3) (by omega) rfl]
    exact f3
  · have b : ∀ i, i < 10 → lk2 cQ 8 i = some 3 := by decide
    have hq : ∀ i, i < 10 → kst0.2.2.2.2.1[i]? = some (0, 0, 1) := by decide
    have hl : i < 10 := (List.getElem?_eq_some_iff.mp hi).1
    rw [hq i hl] at hi
    cases hi
    rw [vw_q h (o := 8) (by omega) (b i hl)]
    exact f3
  · rw [show sF σ (fid 1 0) (x + 9) = x + 10 from vw_f h (o := 9) (t := 10) (by omega) rfl]
    obtain ⟨k1, k2⟩ := vw_k h (o := 10) (by omega) (show lkK cK 10 = (101, 16) from rfl)
    rw [k1, k2]
    exact ⟨rfl, Nat.zero_le _, by omega, by omega⟩
  · match i, hA with
    | 0, hA =>
      cases hA
      rw [vw_q h (o := 17) (i := 0) (t := 85) (by omega) rfl]
      exact vw_st h
    | i + 1, hA => cases hA
end
