/-! ===== the law: calls with one number ===== -/
section
variable {x b L i c9 w9 : Nat} {xs : Nat → Int32} {s s' : Kst} {c c' : Rct} {h h' : As × List As × List As} {σ σ' : St} {k23 : St → Nat → Nat → Nat → Nat → Int32 → Prop}
/-- a number of the script -/
theorem lw_a {i0 t j : Nat} {r : Rst} {P : Int32 → Prop} (hM : Mid x b L xs i0 t s c r σ) (hi : 6 * i + 6 ≤ L ∧ L ≤ 3072) (hj : j < 6) (hP : P (xs (6 * i + j))) : exB (ldI σ b (nI (6 * i) + nI j)) P := by
  obtain ⟨h1, h2, h3, h4⟩ := hM.2.2.2.1
  rw [sm_add]
  exact ⟨_, (sm_ld5 h2 (by rw [h3]; omega) (by omega)).trans (congrArg some (h4 _)), hP⟩
theorem lw_17 {i0 t : Nat} {r : Rst} {P : Unit → Prop} (hM : Mid x b L xs i0 t s c r σ) (hP : P ()) : exB (ckK σ 17 (x + 98)) P := ⟨(), sm_ckK hM.2.1.1.1.k, hP⟩
theorem hd_x {P : Prop} {d : Decidable P} {E : String} {hd : St → String → Option (St × Int32)} (hh : ∀ τ, hd τ E = some (τ, nI 1)) : ∀ e, (@ite _ P d none (some E)) = some e → 0 < (@ite _ P d 0 1) ∧ ∀ τ, hd τ e = some (τ, nI (@ite _ P d 0 1)) := by
  by_cases q : P
  · rw [if_pos q, if_pos q]
    exact fun e z => (by cases z)
  · rw [if_neg q, if_neg q]
    exact fun e z => by cases z; exact ⟨by omega, hh⟩
theorem hd_0 {P : Prop} {d : Decidable P} {E : String} : (@ite _ P d none (some E)) = none → (@ite _ P d 0 1) = 0 := by
  by_cases q : P
  · rw [if_pos q, if_pos q]
    exact fun _ => rfl
  · rw [if_neg q, if_neg q]
    exact fun z => (by cases z)
theorem hd_9 {P : Prop} {d : Decidable P} : (@ite _ P d 0 1) < 10 := by
  by_cases q : P
  · rw [if_pos q]; omega
  · rw [if_neg q]; omega
theorem rst_if {P : Prop} {d : Decidable P} {a a' : Kst} {h : As × List As × List As} {R R' : Rst} (h1 : R = rst a h) (h2 : R' = rst a' h) : (@ite _ P d R R') = rst (@ite _ P d a a') h := by
  by_cases q : P
  · rw [if_pos q, if_pos q]; exact h1
  · rw [if_neg q, if_neg q]; exact h2
theorem int_all {P : Int32 → Prop} {v : Int32} (hP : ∀ z : Int, -2147483648 ≤ z ∧ z < 2147483648 → P (iz z)) : P v := by
  have := hP v.toInt ⟨Int32.le_toInt v, Int32.toInt_lt v⟩
  rw [← iz_self] at this
  exact this
theorem Lo.bds (hL : Lo x b L xs i s c h σ) : c.1 + 230 ≤ 12600 ∧ c.2.1 + 205 ≤ 12000 ∧ c.2.2 + 1 ≤ 600 := by
  obtain ⟨_, _, ⟨h1, h2, h3⟩, h4, _⟩ := hL
  omega
theorem Lo.sts (hL : Lo x b L xs i s c h σ) : s.2.2.2.2.2.2.1.length ≤ 200 := hL.1.2.1.2.1.2.2.2.2.1
theorem br_422 (hn : Nx x b L xs i k23) (hL : Lo x b L xs i s c h σ) : pL_law_422 c9 w9 k23 σ b x (x + 98) (x + 143) (nI (6 * i)) := by
  obtain ⟨o, k⟩ := hL.ki
  have hb := hL.bds
  have hst := hL.sts
  refine lw_a (j := 1) hL.1 hL.2.2.2.2 (by omega) ?_
  generalize hv : xs (6 * i + 1) = v
  revert hv
  refine int_all (P := fun v => xs (6 * i + 1) = v → exW (fL_refused σ x v (x + 143)) _) (v := v) (fun z hz hv => ?_)
  unfold fL_refused
  refine lw_w (t' := s.1.length) (hd := fun τ E => if E = "java/lang/IllegalArgumentException" then some (τ, 1) else none) hL.1 (ki_refused hz k) (hd_x (fun τ => if_pos rfl)) hd_0 (by omega) (by omega) (fun σ2 hM hj => ?_)
  refine lw_a (j := 1) hM hL.2.2.2.2 (by omega) (lw_17 hM ?_)
  rw [hv]
  exact lw_r hM hj (ri_refused hz hM.2.1) (fun _ => rfl) hd_9 (fun σ4 c' hM4 hB => nx_of (h' := h) hn hL hM4 hB rfl rfl hL.2.1)
theorem br_504 (hn : Nx x b L xs i k23) (hL : Lo x b L xs i s c h σ) : pL_law_504 c9 w9 k23 σ b x (x + 98) (x + 143) (nI (6 * i)) := by
  obtain ⟨o, k⟩ := hL.ki
  have hb := hL.bds
  have hst := hL.sts
  refine lw_a (j := 1) hL.1 hL.2.2.2.2 (by omega) ?_
  generalize hv : xs (6 * i + 1) = v
  revert hv
  refine int_all (P := fun v => xs (6 * i + 1) = v → exW (fL_ringAt σ x v (x + 143)) _) (v := v) (fun z hz hv => ?_)
  unfold fL_ringAt
  refine lw_w (t' := s.1.length) (hd := fun τ E => if E = "java/lang/IndexOutOfBoundsException" then some (τ, 1) else none) hL.1 (ki_ringAt hz k) (hd_x (fun τ => if_pos rfl)) hd_0 (by omega) (by omega) (fun σ2 hM hj => ?_)
  refine lw_a (j := 1) hM hL.2.2.2.2 (by omega) (lw_17 hM ?_)
  rw [hv]
  exact lw_r hM hj (ri_ringAt hz hM.2.1) (fun _ => rfl) hd_9 (fun σ4 c' hM4 hB => nx_of (h' := h) hn hL hM4 hB rfl rfl hL.2.1)
theorem br_739 (hn : Nx x b L xs i k23) (hL : Lo x b L xs i s c h σ) : pL_law_739 c9 w9 k23 σ b x (x + 98) (x + 143) (nI (6 * i)) := by
  obtain ⟨o, k⟩ := hL.ki
  have hb := hL.bds
  have hst := hL.sts
  refine lw_a (j := 1) hL.1 hL.2.2.2.2 (by omega) ?_
  generalize hv : xs (6 * i + 1) = v
  revert hv
  refine int_all (P := fun v => xs (6 * i + 1) = v → exW (fL_writtenAt σ x v (x + 143)) _) (v := v) (fun z hz hv => ?_)
  unfold fL_writtenAt
  refine lw_w (t' := s.1.length) (hd := fun τ E => if E = "java/lang/IndexOutOfBoundsException" then some (τ, 1) else none) hL.1 (ki_writtenAt hz k) (hd_x (fun τ => if_pos rfl)) hd_0 (by omega) (by omega) (fun σ2 hM hj => ?_)
  refine lw_a (j := 1) hM hL.2.2.2.2 (by omega) (lw_17 hM ?_)
  rw [hv]
  exact lw_r hM hj (ri_writtenAt hz hM.2.1) (fun _ => rfl) hd_9 (fun σ4 c' hM4 hB => nx_of (h' := h) hn hL hM4 hB rfl rfl hL.2.1)
theorem br_795 (hn : Nx x b L xs i k23) (hL : Lo x b L xs i s c h σ) : pL_law_795 c9 w9 k23 σ b x (x + 98) (x + 143) (nI (6 * i)) := by
  obtain ⟨o, k⟩ := hL.ki
  have hb := hL.bds
  have hst := hL.sts
  refine lw_a (j := 1) hL.1 hL.2.2.2.2 (by omega) ?_
  generalize hv : xs (6 * i + 1) = v
  revert hv
  refine int_all (P := fun v => xs (6 * i + 1) = v → exW (fL_keep σ x v (x + 143)) _) (v := v) (fun z hz hv => ?_)
  unfold fL_keep
  refine lw_w (t' := s.1.length) (hd := fun τ E => if E = "java/lang/IllegalArgumentException" then some (τ, 1) else none) hL.1 (ki_keep hz k) (hd_x (fun τ => if_pos rfl)) hd_0 (by omega) (by omega) (fun σ2 hM hj => ?_)
  refine lw_a (j := 1) hM hL.2.2.2.2 (by omega) (lw_17 hM ?_)
  rw [hv]
  exact lw_r hM hj (ri_keep hz hM.2.1) (fun _ => rfl) hd_9 (fun σ4 c' hM4 hB => nx_of (h' := h) hn hL hM4 hB (rst_if rfl rfl) (by split <;> rfl) (by split <;> exact hL.2.1))
theorem br_851 (hn : Nx x b L xs i k23) (hL : Lo x b L xs i s c h σ) : pL_law_851 c9 w9 k23 σ b x (x + 98) (x + 143) (nI (6 * i)) := by
  obtain ⟨o, k⟩ := hL.ki
  have hb := hL.bds
  have hst := hL.sts
  refine lw_a (j := 1) hL.1 hL.2.2.2.2 (by omega) ?_
  generalize hv : xs (6 * i + 1) = v
  revert hv
  refine int_all (P := fun v => xs (6 * i + 1) = v → exW (fL_take σ x v (x + 143)) _) (v := v) (fun z hz hv => ?_)
  unfold fL_take
  refine lw_w (t' := s.1.length) (hd := fun τ E => if E = "java/lang/IllegalArgumentException" then some (τ, 1) else none) hL.1 (ki_take hz k) (hd_x (fun τ => if_pos rfl)) hd_0 (by omega) (by omega) (fun σ2 hM hj => ?_)
  refine lw_a (j := 1) hM hL.2.2.2.2 (by omega) (lw_17 hM ?_)
  rw [hv]
  exact lw_r hM hj (ri_take hz (by omega) hM.2.1) (fun _ => rfl) hd_9 (fun σ4 c' hM4 hB => nx_of (h' := h) hn hL hM4 hB (rst_if rfl rfl) (by split <;> rfl) (by split <;> exact hL.2.1))
theorem br_1412 (hn : Nx x b L xs i k23) (hL : Lo x b L xs i s c h σ) : pL_law_1412 c9 w9 k23 σ b x (x + 98) (x + 143) (nI (6 * i)) := by
  obtain ⟨o, k⟩ := hL.ki
  have hb := hL.bds
  have hst := hL.sts
  refine lw_a (j := 1) hL.1 hL.2.2.2.2 (by omega) ?_
  generalize hv : xs (6 * i + 1) = v
  revert hv
  refine int_all (P := fun v => xs (6 * i + 1) = v → exW (fL_stepAt σ x v (x + 143)) _) (v := v) (fun z hz hv => ?_)
  unfold fL_stepAt
  refine lw_w (t' := s.1.length) (hd := fun τ E => if E = "java/lang/IndexOutOfBoundsException" then some (τ, 1) else none) hL.1 (ki_stepAt hz hst k) (hd_x (fun τ => if_pos rfl)) hd_0 (by omega) (by omega) (fun σ2 hM hj => ?_)
  refine lw_a (j := 1) hM hL.2.2.2.2 (by omega) (lw_17 hM ?_)
  rw [hv]
  exact lw_r hM hj (ri_stepAt hz hM.2.1) (fun _ => rfl) hd_9 (fun σ4 c' hM4 hB => nx_of (h' := h) hn hL hM4 hB rfl rfl hL.2.1)
theorem br_1468 (hn : Nx x b L xs i k23) (hL : Lo x b L xs i s c h σ) : pL_law_1468 c9 w9 k23 σ b x (x + 98) (x + 143) (nI (6 * i)) := by
  obtain ⟨o, k⟩ := hL.ki
  have hb := hL.bds
  have hst := hL.sts
  refine lw_a (j := 1) hL.1 hL.2.2.2.2 (by omega) ?_
  generalize hv : xs (6 * i + 1) = v
  revert hv
  refine int_all (P := fun v => xs (6 * i + 1) = v → exW (fL_takeStep σ x v (x + 143)) _) (v := v) (fun z hz hv => ?_)
  unfold fL_takeStep
  refine lw_w (t' := s.1.length) (hd := fun τ E => if E = "java/lang/IndexOutOfBoundsException" then some (τ, 1) else none) hL.1 (ki_takeStep hz hst k) (hd_x (fun τ => if_pos rfl)) hd_0 (by omega) (by omega) (fun σ2 hM hj => ?_)
  refine lw_a (j := 1) hM hL.2.2.2.2 (by omega) (lw_17 hM ?_)
  rw [hv]
  exact lw_r hM hj (ri_takeStep hz (by omega) hM.2.1) (fun _ => rfl) hd_9 (fun σ4 c' hM4 hB => nx_of (h' := h) hn hL hM4 hB (rst_if rfl rfl) (by split <;> rfl) (by split <;> exact hL.2.1))
theorem br_1563 (hn : Nx x b L xs i k23) (hL : Lo x b L xs i s c h σ) : pL_law_1563 c9 w9 k23 σ b x (x + 98) (x + 143) (nI (6 * i)) := by
  obtain ⟨o, k⟩ := hL.ki
  have hb := hL.bds
  have hst := hL.sts
  refine lw_a (j := 1) hL.1 hL.2.2.2.2 (by omega) ?_
  generalize hv : xs (6 * i + 1) = v
  revert hv
  refine int_all (P := fun v => xs (6 * i + 1) = v → exW (fL_decimal σ x v (x + 143)) _) (v := v) (fun z hz hv => ?_)
  unfold fL_decimal
  refine lw_w (t' := s.1.length) (hd := fun τ E => if E = "java/lang/IllegalArgumentException" then some (τ, 1) else none) hL.1 (ki_decimal hz k) (hd_x (fun τ => if_pos rfl)) hd_0 (by omega) (by omega) (fun σ2 hM hj => ?_)
  refine lw_a (j := 1) hM hL.2.2.2.2 (by omega) (lw_17 hM ?_)
  rw [hv]
  exact lw_r hM hj (ri_decimal hz hM.2.1) (fun _ => rfl) hd_9 (fun σ4 c' hM4 hB => nx_of (h' := h) hn hL hM4 hB rfl rfl hL.2.1)
theorem br_1632 (hn : Nx x b L xs i k23) (hL : Lo x b L xs i s c h σ) : pL_law_1632 c9 w9 k23 σ b x (x + 98) (x + 143) (nI (6 * i)) := by
  obtain ⟨o, k⟩ := hL.ki
  have hb := hL.bds
  have hst := hL.sts
  refine lw_a (j := 1) hL.1 hL.2.2.2.2 (by omega) ?_
  generalize hv : xs (6 * i + 1) = v
  revert hv
  refine int_all (P := fun v => xs (6 * i + 1) = v → exW (fL_takeContinued σ x v (x + 143)) _) (v := v) (fun z hz hv => ?_)
  unfold fL_takeContinued
  refine lw_w (t' := s.1.length) (hd := fun τ E => if E = "java/lang/IndexOutOfBoundsException" then some (τ, 1) else none) hL.1 (ki_takeContinued hz k) (hd_x (fun τ => if_pos rfl)) hd_0 (by omega) (by omega) (fun σ2 hM hj => ?_)
  refine lw_a (j := 1) hM hL.2.2.2.2 (by omega) (lw_17 hM ?_)
  rw [hv]
  exact lw_r hM hj (ri_takeContinued hz (by omega) hM.2.1) (fun _ => rfl) hd_9 (fun σ4 c' hM4 hB => nx_of (h' := h) hn hL hM4 hB (rst_if rfl rfl) (by split <;> rfl) (by split <;> exact hL.2.1))
end
