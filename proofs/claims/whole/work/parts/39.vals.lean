/-! ===== values: a sign, a numerator, a denominator, in lowest terms ===== -/
abbrev Qv := Int × Nat × Nat
def qok (q : Qv) : Prop := (q.1 = 0 ∨ q.1 = 1 ∨ q.1 = -1) ∧ (q.1 = 0 ↔ q.2.1 = 0) ∧ 0 < q.2.2 ∧ Nat.gcd q.2.1 q.2.2 = 1 ∧ q.2.1 < dig30 ∧ q.2.2 < dig30
def qmk (s : Int) (x y : Nat) : Qv := (if x = 0 then 0 else s, x / Nat.gcd x y, y / Nat.gcd x y)
abbrev qsm (q : Qv) : Prop := q.2.1 < dig30 ∧ q.2.2 < dig30
theorem dig30_lt : dig30 < 10000 ^ 8 := by
  have := tp_s 7
  have d : dig30 = 100 * 10000 ^ 7 := rfl
  have := tp_pos 7
  omega
theorem qmk_ok {s : Int} {x y : Nat} (h0 : 0 < y) (hs : x ≠ 0 → s = 1 ∨ s = -1) (hq : qsm (qmk s x y)) : qok (qmk s x y) := by
  have hg : 0 < Nat.gcd x y := Nat.gcd_pos_of_pos_right _ h0
  refine ⟨?_, ?_, Nat.div_pos (Nat.le_of_dvd h0 (Nat.gcd_dvd_right x y)) hg, ?_, hq.1, hq.2⟩
  · show (if x = 0 then (0 : Int) else s) = 0 ∨ _
    by_cases hx : x = 0
    · rw [if_pos hx]; exact Or.inl rfl
    · show _ ∨ (if x = 0 then (0 : Int) else s) = 1 ∨ (if x = 0 then (0 : Int) else s) = -1
      rw [if_neg hx]; exact Or.inr (hs hx)
  · show (if x = 0 then (0 : Int) else s) = 0 ↔ x / Nat.gcd x y = 0
    by_cases hx : x = 0
    · rw [if_pos hx, hx, Nat.zero_div]
      exact ⟨fun _ => rfl, fun _ => rfl⟩
    · rw [if_neg hx]
      have h1 : 0 < x / Nat.gcd x y := Nat.div_pos (Nat.le_of_dvd (by omega) (Nat.gcd_dvd_left x y)) hg
      refine ⟨fun h => ?_, fun h => by omega⟩
      rcases hs hx with h2 | h2 <;> omega
  · show Nat.gcd (x / Nat.gcd x y) (y / Nat.gcd x y) = 1
    rw [Nat.gcd_div (Nat.gcd_dvd_left x y) (Nat.gcd_dvd_right x y), Nat.div_self hg]
/-- place i of the reference's values holds q -/
def Vl (σ : St) (m i : Nat) (q : Qv) : Prop := qok q ∧ sA σ (m + 3) i = iz q.1 ∧ (∀ k, k < 8 → sA σ (m + 4) (16 * i + k) = nI (dq q.2.1 k % 10000)) ∧ ∀ k, k < 8 → sA σ (m + 4) (16 * i + 8 + k) = nI (dq q.2.2 k % 10000)
/-- of the registers only those of S, of the values only those of V change -/
def rfG (m : Nat) (S : List Nat) (V : Nat → Prop) (σ σ' : St) : Prop := (rfE m σ σ' ∧ sI σ' = sI σ ∧ ∀ b, b ≠ m + 1 → b ≠ m + 2 → b ≠ m + 3 → b ≠ m + 4 → sA σ' b = sA σ b) ∧
  (∀ r, r ∉ S → sA σ' (m + 2) r = sA σ (m + 2) r ∧ ∀ k, k < 1000 → sA σ' (m + 1) (1000 * r + k) = sA σ (m + 1) (1000 * r + k)) ∧ ∀ i, ¬ V i → sA σ' (m + 3) i = sA σ (m + 3) i ∧ ∀ k, k < 16 → sA σ' (m + 4) (16 * i + k) = sA σ (m + 4) (16 * i + k)
theorem rfG.rf {m : Nat} {S : List Nat} {V : Nat → Prop} {σ : St} : rfG m S V σ σ := ⟨⟨rfE.rf, rfl, fun _ _ _ _ _ => rfl⟩, fun _ _ => ⟨rfl, fun _ _ => rfl⟩, fun _ _ => ⟨rfl, fun _ _ => rfl⟩⟩
theorem rfG.tr {m : Nat} {S : List Nat} {V : Nat → Prop} {σ σ1 σ2 : St} (h1 : rfG m S V σ σ1) (h2 : rfG m S V σ1 σ2) : rfG m S V σ σ2 := by
  obtain ⟨⟨a1, a2, a3⟩, a4, a5⟩ := h1
  obtain ⟨⟨b1, b2, b3⟩, b4, b5⟩ := h2
  exact ⟨⟨a1.tr b1, b2.trans a2, fun b h1 h2 h3 h4 => (b3 b h1 h2 h3 h4).trans (a3 b h1 h2 h3 h4)⟩, fun r hr => ⟨(b4 r hr).1.trans (a4 r hr).1, fun k hk => ((b4 r hr).2 k hk).trans ((a4 r hr).2 k hk)⟩, fun i hi => ⟨(b5 i hi).1.trans (a5 i hi).1, fun k hk => ((b5 i hi).2 k hk).trans ((a5 i hi).2 k hk)⟩⟩
theorem rfG.mo {m : Nat} {S S' : List Nat} {V V' : Nat → Prop} {σ σ' : St} (h : rfG m S V σ σ') (hs : ∀ r ∈ S, r ∈ S') (hv : ∀ i, V i → V' i) : rfG m S' V' σ σ' := ⟨h.1, fun r hr => h.2.1 r fun q => hr (hs r q), fun i hi => h.2.2 i fun q => hi (hv i q)⟩
theorem rfR.G {m : Nat} {S : List Nat} {V : Nat → Prop} {σ σ' : St} (h : rfR m S σ σ') : rfG m S V σ σ' := ⟨⟨h.1.1, h.1.2.1, fun b h1 h2 _ _ => h.1.2.2 b h1 h2⟩, h.2, fun i _ => ⟨by rw [h.1.2.2 _ (by omega) (by omega)], fun k _ => by rw [h.1.2.2 _ (by omega) (by omega)]⟩⟩
theorem rfG.ms {m : Nat} {S : List Nat} {V : Nat → Prop} {σ σ' : St} (h : rfG m S V σ σ') (hm : MS σ m) : MS σ' m := h.1.1.keep hm
theorem Ru.keepG {m r w x : Nat} {S : List Nat} {V : Nat → Prop} {σ σ' : St} (h : Ru σ m r w x) (hR : rfG m S V σ σ') (hr : r ∉ S) (hw : w ≤ 1000) : Ru σ' m r w x :=
  ⟨(hR.2.1 r hr).1.trans h.1, fun k hk => ((hR.2.1 r hr).2 k (by omega)).trans (h.2.1 k hk), h.2.2⟩
theorem Rv.keepG {m r x : Nat} {S : List Nat} {V : Nat → Prop} {σ σ' : St} (h : Rv σ m r x) (hR : rfG m S V σ σ') (hr : r ∉ S) : Rv σ' m r x := by
  obtain ⟨w, hU, hw, hmin⟩ := h
  exact ⟨w, hU.keepG hR hr (by omega), hw, hmin⟩
theorem Vl.keepG {m i : Nat} {q : Qv} {S : List Nat} {V : Nat → Prop} {σ σ' : St} (h : Vl σ m i q) (hR : rfG m S V σ σ') (hi : ¬ V i) : Vl σ' m i q := by
  refine ⟨h.1, (hR.2.2 i hi).1.trans h.2.1, fun k hk => ((hR.2.2 i hi).2 k (by omega)).trans (h.2.2.1 k hk), fun k hk => ?_⟩
  have := (hR.2.2 i hi).2 (8 + k) (by omega)
  rw [show 16 * i + 8 + k = 16 * i + (8 + k) by omega, this, show 16 * i + (8 + k) = 16 * i + 8 + k by omega]
  exact h.2.2.2 k hk
theorem Vl.keep {m i : Nat} {q : Qv} {S : List Nat} {σ σ' : St} (h : Vl σ m i q) (hR : rfR m S σ σ') : Vl σ' m i q := h.keepG (V := fun _ => False) hR.G (fun h => h)
theorem rfG.w3 {m i : Nat} {S : List Nat} {V : Nat → Prop} {σ : St} {v : Int32} (hi : V i) : rfG m S V σ (wA σ (m + 3) i v) :=
  ⟨⟨rfE.wA (by omega), rfl, fun b _ _ h _ => sA_wA_b h⟩, fun r _ => ⟨by rw [sA_wA_b (by omega)], fun k _ => by rw [sA_wA_b (by omega)]⟩, fun j hj => ⟨sA_wA_j (fun h => hj (h ▸ hi)), fun k _ => by rw [sA_wA_b (by omega)]⟩⟩
theorem rfG.w4 {m i o : Nat} {S : List Nat} {V : Nat → Prop} {σ : St} {v : Int32} (hi : V i) (ho : o < 16) : rfG m S V σ (wA σ (m + 4) (16 * i + o) v) :=
  ⟨⟨rfE.wA (by omega), rfl, fun b _ _ _ h => sA_wA_b h⟩, fun r _ => ⟨by rw [sA_wA_b (by omega)], fun k _ => by rw [sA_wA_b (by omega)]⟩, fun j hj => ⟨by rw [sA_wA_b (by omega)], fun k hk => sA_wA_j (fun h => by
    have : j = i := by omega
    exact hj (this ▸ hi))⟩⟩
theorem rf_loads_loop {m r o x : Nat} (hr : r < 15) (ho : o + 8 ≤ 201600) (hx : x < 10000 ^ 8) : ∀ (n : Nat) (σ : St) (k : Nat), MS σ m → 8 - k < n → k ≤ 8 → sA σ (m + 2) r = nI 8 → (∀ j, j < 8 → sA σ (m + 4) (o + j) = nI (dq x j % 10000)) → (∀ j, j < k → sA σ (m + 1) (1000 * r + j) = nI (dq x j % 10000)) →
    ∃ σ', fX12_loads_28 n σ m (nI r) (nI o) (nI k) = some (σ', ()) ∧ rfR m [r] σ σ' ∧ Rv σ' m r x := by
  intro n
  induction n with
  | zero => intro σ k _ h; omega
  | succ n ih =>
    intro σ k hm hn hk h1 h2 h3
    rw [fX12_loads_28]
    by_cases hc : 8 ≤ k
    · obtain rfl : k = 8 := by omega
      obtain ⟨σ', e, hR, hV⟩ := rf_trims (x := x) (w := 8) hm hr (by omega) ⟨h1, h3, hx⟩
      refine ⟨σ', ?_, hR, hV⟩
      simp (disch := first | exact hm | ((repeat (first | apply MS_A | apply MS_I)) <;> exact hm) | omega) only [sm_bind, sm_cb, sm_nm, lits, sm_add, sm_mul, sm_le, sm_lt, sm_eq, sm_div, sm_sub, sA_wA_b, sA_wA_eq, Nat.zero_le, ↓reduceIte, rf_ck, Nat.le_refl, e]
    · have hst : rfR m [r] σ (wA σ (m + 1) (1000 * r + k) (nI (dq x k % 10000))) := rfR.w1 List.mem_cons_self (by omega)
      obtain ⟨σ', e, hR, hV⟩ := ih (wA σ (m + 1) (1000 * r + k) (nI (dq x k % 10000))) (k + 1) hm (by omega) (by omega) (by rw [sA_wA_b (by omega), h1]) (fun j hj => by rw [sA_wA_b (by omega)]; exact h2 j hj) (fun j hj => by
        by_cases hjk : j = k
        · subst hjk; exact sA_wA_eq
        · rw [sA_wA_j (by omega)]; exact h3 j (by omega))
      have q := h2 k (by omega)
      refine ⟨σ', ?_, hst.tr hR, hV⟩
      simp (disch := first | exact hm | ((repeat (first | apply MS_A | apply MS_I)) <;> exact hm) | omega) only [sm_bind, sm_cb, sm_nm, lits, sm_add, sm_mul, sm_le, sm_lt, sm_eq, sm_div, sm_sub, sA_wA_b, sA_wA_eq, Nat.zero_le, ↓reduceIte, rf_ck, rf_big, ld_big, st_big, rf_part, ld_part, st_part, hc, q, e]
theorem rf_loads {m r i : Nat} {q : Qv} {σ : St} (hm : MS σ m) (hr : r < 15) (hi : i < 12600) (hV : Vl σ m i q) (b : Nat) (hb : b ≤ 1) :
    ∃ σ', fX12_loads σ m (nI r) (nI i) (nI b) = some (σ', ()) ∧ rfR m [r] σ σ' ∧ Rv σ' m r (if b = 0 then q.2.1 else q.2.2) := by
  have hst : rfR m [r] σ (wA σ (m + 2) r (nI 8)) := rfR.w2 List.mem_cons_self
  have h8 := dig30_lt
  obtain ⟨hq, h1, h2, h3⟩ := hV
  have hn := hq.2.2.2.2.1
  have hd := hq.2.2.2.2.2
  unfold fX12_loads fX12_loads_22
  by_cases h0 : b = 0
  · obtain ⟨σ', e, hR, hV⟩ := rf_loads_loop (o := 16 * i) (x := q.2.1) hr (by omega) (by omega) FU (wA σ (m + 2) r (nI 8)) 0 hm (by unfold FU; omega) (by omega) sA_wA_eq (fun j hj => by rw [sA_wA_b (by omega)]; exact h2 j hj) (fun j hj => by omega)
    subst h0
    refine ⟨σ', ?_, hst.tr hR, hV⟩
    simp (disch := first | exact hm | ((repeat (first | apply MS_A | apply MS_I)) <;> exact hm) | omega) only [sm_bind, sm_cb, sm_nm, lits, sm_add, sm_mul, sm_le, sm_lt, sm_eq, sm_div, sm_sub, sA_wA_b, sA_wA_eq, Nat.zero_le, ↓reduceIte, rf_ck, rf_wide, ld_wide, st_wide, Nat.add_zero, e]
  · obtain ⟨σ', e, hR, hV⟩ := rf_loads_loop (o := 16 * i + 8) (x := q.2.2) hr (by omega) (by omega) FU (wA σ (m + 2) r (nI 8)) 0 hm (by unfold FU; omega) (by omega) sA_wA_eq (fun j hj => by rw [sA_wA_b (by omega)]; exact h3 j hj) (fun j hj => by omega)
    refine ⟨σ', ?_, hst.tr hR, by rw [if_neg h0]; exact hV⟩
    simp (disch := first | exact hm | ((repeat (first | apply MS_A | apply MS_I)) <;> exact hm) | omega) only [sm_bind, sm_cb, sm_nm, lits, sm_add, sm_mul, sm_le, sm_lt, sm_eq, sm_div, sm_sub, sA_wA_b, sA_wA_eq, Nat.zero_le, ↓reduceIte, rf_ck, rf_wide, ld_wide, st_wide, h0, e]
theorem rf_loads0 {m r i : Nat} {q : Qv} {σ : St} (hm : MS σ m) (hr : r < 15) (hi : i < 12600) (hV : Vl σ m i q) :
    ∃ σ', fX12_loads σ m (nI r) (nI i) (nI 0) = some (σ', ()) ∧ rfR m [r] σ σ' ∧ Rv σ' m r q.2.1 := rf_loads hm hr hi hV 0 (by omega)
theorem rf_loads1 {m r i : Nat} {q : Qv} {σ : St} (hm : MS σ m) (hr : r < 15) (hi : i < 12600) (hV : Vl σ m i q) :
    ∃ σ', fX12_loads σ m (nI r) (nI i) (nI 1) = some (σ', ()) ∧ rfR m [r] σ σ' ∧ Rv σ' m r q.2.2 := rf_loads hm hr hi hV 1 (by omega)
theorem rf_loadsBoth {m i j : Nat} {p q : Qv} {σ : St} (hm : MS σ m) (hi : i < 12600) (hj : j < 12600) (hp : Vl σ m i p) (hq : Vl σ m j q) :
    ∃ σ', fX12_loadsBoth σ m (nI i) (nI j) = some (σ', ()) ∧ rfR m [0, 1, 2, 3] σ σ' ∧ Rv σ' m 0 p.2.1 ∧ Rv σ' m 1 p.2.2 ∧ Rv σ' m 2 q.2.1 ∧ Rv σ' m 3 q.2.2 := by
  obtain ⟨σ1, e1, hR1, hV1⟩ := rf_loads0 (r := 0) hm (by omega) hi hp
  have hm1 := hR1.ms hm
  obtain ⟨σ2, e2, hR2, hV2⟩ := rf_loads1 (r := 1) hm1 (by omega) hi (hp.keep hR1)
  have hm2 := hR2.ms hm1
  obtain ⟨σ3, e3, hR3, hV3⟩ := rf_loads0 (r := 2) hm2 (by omega) hj ((hq.keep hR1).keep hR2)
  have hm3 := hR3.ms hm2
  obtain ⟨σ4, e4, hR4, hV4⟩ := rf_loads1 (r := 3) hm3 (by omega) hj (((hq.keep hR1).keep hR2).keep hR3)
  refine ⟨σ4, ?_, (hR1.mo (by simp)).tr ((hR2.mo (by simp)).tr ((hR3.mo (by simp)).tr (hR4.mo (by simp)))), ((hV1.keep hR2 (by simp)).keep hR3 (by simp)).keep hR4 (by simp), (hV2.keep hR3 (by simp)).keep hR4 (by simp), hV3.keep hR4 (by simp), hV4⟩
  unfold fX12_loadsBoth
  simp only [lits, sm_bind, sm_cb, rf_ck hm, rf_ck hm1, rf_ck hm2, rf_ck hm3, e1, e2, e3, e4]
theorem rf_lays_loop {m i x y : Nat} {s : Int32} (hi : i < 12600) : ∀ (n : Nat) (σ : St) (k : Nat), MS σ m → 8 - k < n → k ≤ 8 → Rv σ m 6 x → Rv σ m 7 y → sA σ (m + 3) i = s → (∀ j, j < k → sA σ (m + 4) (16 * i + j) = nI (dq x j % 10000)) → (∀ j, j < k → sA σ (m + 4) (16 * i + 8 + j) = nI (dq y j % 10000)) →
    ∃ σ', fX12_lays_47 n σ m (nI i) (nI k) = some (σ', nI 1) ∧ rfG m [] (fun j => j = i) σ σ' ∧ sA σ' (m + 3) i = s ∧ (∀ j, j < 8 → sA σ' (m + 4) (16 * i + j) = nI (dq x j % 10000)) ∧ ∀ j, j < 8 → sA σ' (m + 4) (16 * i + 8 + j) = nI (dq y j % 10000) := by
  intro n
  induction n with
  | zero => intro σ k _ h; omega
  | succ n ih =>
    intro σ k hm hn hk hA hB h1 h2 h3
    rw [fX12_lays_47]
    by_cases hc : 8 ≤ k
    · obtain rfl : k = 8 := by omega
      refine ⟨σ, ?_, rfG.rf, h1, h2, h3⟩
      simp (disch := first | exact hm | ((repeat (first | apply MS_A | apply MS_I)) <;> exact hm) | omega) only [sm_bind, sm_cb, sm_nm, lits, sm_add, sm_mul, sm_le, sm_lt, sm_eq, sm_div, sm_sub, sA_wA_b, sA_wA_eq, Nat.zero_le, ↓reduceIte, rf_ck, Nat.le_refl]
    · have l1 := rf_limb (k := k) hm (show 6 < 15 by omega) (by omega) hA
      have w1 : rfG m [] (fun j => j = i) σ (wA σ (m + 4) (16 * i + k) (nI (dq x k % 10000))) := rfG.w4 rfl (by omega)
      have hm1 := w1.ms hm
      have l2 := rf_limb (k := k) hm1 (show 7 < 15 by omega) (by omega) (hB.keepG w1 (by simp))
      have w2 : rfG m [] (fun j => j = i) (wA σ (m + 4) (16 * i + k) (nI (dq x k % 10000))) (wA (wA σ (m + 4) (16 * i + k) (nI (dq x k % 10000))) (m + 4) (16 * i + (8 + k)) (nI (dq y k % 10000))) := rfG.w4 rfl (by omega)
      obtain ⟨σ', e, hR, hV⟩ := ih (wA (wA σ (m + 4) (16 * i + k) (nI (dq x k % 10000))) (m + 4) (16 * i + (8 + k)) (nI (dq y k % 10000))) (k + 1) (w2.ms hm1) (by omega) (by omega) ((hA.keepG w1 (by simp)).keepG w2 (by simp)) ((hB.keepG w1 (by simp)).keepG w2 (by simp)) (by rw [sA_wA_b (by omega), sA_wA_b (by omega), h1])
        (fun j hj => by
          rw [sA_wA_j (by omega)]
          by_cases hjk : j = k
          · subst hjk; exact sA_wA_eq
          · rw [sA_wA_j (by omega)]; exact h2 j (by omega))
        (fun j hj => by
          by_cases hjk : j = k
          · subst hjk; rw [Nat.add_assoc]; exact sA_wA_eq
          · rw [sA_wA_j (by omega), sA_wA_j (by omega)]; exact h3 j (by omega))
      refine ⟨σ', ?_, w1.tr (w2.tr hR), hV⟩
      simp (disch := first | exact hm | ((repeat (first | apply MS_A | apply MS_I)) <;> exact hm) | omega) only [sm_bind, sm_cb, sm_nm, lits, sm_add, sm_mul, sm_le, sm_lt, sm_eq, sm_div, sm_sub, sA_wA_b, sA_wA_eq, Nat.zero_le, ↓reduceIte, rf_ck, rf_part, ld_part, st_part, hc, l1, l2, Nat.add_assoc, e]
theorem rf_lays {m i x y u : Nat} {s : Int} {σ : St} (hm : MS σ m) (hi : i < 12600) (hu : u ≤ 978) (hx : x < 10000 ^ u) (hy : y < 10000 ^ u) (h0 : 0 < y) (hs : x ≠ 0 → s = 1 ∨ s = -1) (hA : Rv σ m 6 x) (hB : Rv σ m 7 y) :
    ∃ σ', fX12_lays σ m (nI i) (iz s) = some (σ', nI (if qsm (qmk s x y) then 1 else 0)) ∧ rfG m [6, 7, 8, 9, 10, 11, 12] (fun j => j = i ∧ qsm (qmk s x y)) σ σ' ∧ (qsm (qmk s x y) → Vl σ' m i (qmk s x y)) := by
  obtain ⟨σ1, e1, hR1, hV1, hW1⟩ := rf_lowers hm hu hx hy h0 hA hB
  have hm1 := hR1.ms hm
  have s1 := rf_isSmall hm1 (show 6 < 15 by omega) hV1
  have s2 := rf_isSmall hm1 (show 7 < 15 by omega) hW1
  unfold fX12_lays
  by_cases c1 : x / Nat.gcd x y < dig30
  · by_cases c2 : y / Nat.gcd x y < dig30
    · have hq : qsm (qmk s x y) := ⟨c1, c2⟩
      rw [if_pos c1] at s1
      rw [if_pos c2] at s2
      obtain ⟨w, z1, z2, z3⟩ := hV1.z
      have hg : 0 < Nat.gcd x y := Nat.gcd_pos_of_pos_right _ h0
      have hxz : w = 0 ↔ x = 0 := by
        rw [z3]
        refine ⟨fun h => ?_, fun h => by rw [h, Nat.zero_div]⟩
        apply Classical.byContradiction
        intro hx0
        have : 0 < x / Nat.gcd x y := Nat.div_pos (Nat.le_of_dvd (by omega) (Nat.gcd_dvd_left x y)) hg
        omega
      have ws : rfG m [] (fun j => j = i) σ1 (wA σ1 (m + 3) i (iz (qmk s x y).1)) := rfG.w3 rfl
      obtain ⟨σ2, e2, hR2, h3, h4, h5⟩ := rf_lays_loop (x := x / Nat.gcd x y) (y := y / Nat.gcd x y) hi FU (wA σ1 (m + 3) i (iz (qmk s x y).1)) 0 (ws.ms hm1) (by unfold FU; omega) (by omega) (hV1.keepG ws (by simp)) (hW1.keepG ws (by simp)) sA_wA_eq (fun j hj => by omega) (fun j hj => by omega)
      refine ⟨σ2, ?_, hR1.G.tr ((ws.tr hR2).mo (by simp) (fun j hj => ⟨hj, hq⟩)), fun _ => ⟨qmk_ok h0 hs hq, h3, h4, h5⟩⟩
      rw [if_pos hq]
      have n1 : ¬ (nI 1 = nI 0) := by rw [sm_eq (by omega) (by omega)]; omega
      have q1 : ldI σ1 (m + 2) (nI 6) = some (nI w) := by rw [ld_wide hm1 (by omega), z1]
      by_cases hw : x = 0
      · have hw0 := hxz.mpr hw
        subst hw0
        have es : (qmk s x y).1 = 0 := if_pos hw
        rw [es] at e2
        simp only [lits, sm_bind, sm_cb, rf_ck hm, rf_ck hm1, e1, s1, s2, n1, ↓reduceIte, rf_sign hm1, rf_wide hm1, q1, fX12_lays_44, st_sign hm1 hi]
        exact e2
      · have es : (qmk s x y).1 = s := if_neg hw
        rw [es] at e2
        have n2 : ¬ (nI w = nI 0) := by rw [sm_eq (by omega) (by omega)]; exact fun h => hw (hxz.mp h)
        simp only [lits, sm_bind, sm_cb, rf_ck hm, rf_ck hm1, e1, s1, s2, n1, n2, ↓reduceIte, rf_sign hm1, rf_wide hm1, q1, fX12_lays_44, st_sign hm1 hi]
        exact e2
    · have hq : ¬ qsm (qmk s x y) := fun h => c2 h.2
      rw [if_pos c1] at s1
      rw [if_neg c2] at s2
      refine ⟨σ1, ?_, hR1.G, fun h => absurd h hq⟩
      rw [if_neg hq]
      have n1 : ¬ (nI 1 = nI 0) := by rw [sm_eq (by omega) (by omega)]; omega
      simp only [lits, sm_bind, sm_cb, rf_ck hm, rf_ck hm1, e1, s1, s2, n1, ↓reduceIte]
  · have hq : ¬ qsm (qmk s x y) := fun h => c1 h.1
    rw [if_neg c1] at s1
    refine ⟨σ1, ?_, hR1.G, fun h => absurd h hq⟩
    rw [if_neg hq]
    simp only [lits, sm_bind, sm_cb, rf_ck hm, rf_ck hm1, e1, s1, ↓reduceIte]
