/-! ===== the law: calls with a flag, with two numbers, with five; doubles ===== -/
section
variable {x b L i c9 w9 : Nat} {xs : Nat → Int32} {s s' : Kst} {c c' : Rct} {r r' : Rst} {h h' : As × List As × List As} {σ σ' : St} {k23 : St → Nat → Nat → Nat → Nat → Int32 → Prop}
theorem lw_c {i0 t t' K C : Nat} {val : Int} {fc : Option (St × Int32)} {kk : St → Int32 → Prop} (hM : Mid x b L xs i0 t s c r σ) (hc : Hx fc (KV x K C s' val σ)) (h1 : K + 20 * t' ≤ 2500 + 20 * t) (h2 : C + 5 * t' ≤ 700 + 5 * t) (hk : ∀ σ1, Mid x b L xs (i0 + 1) t' s' c r σ1 → kk σ1 (iz val)) : exC fc kk := by
  obtain ⟨σ1, v, e1, rfl, hK, hO⟩ := hc
  exact ⟨σ1, _, e1, hk σ1 (mid_cls hM hO hK h1 h2)⟩
theorem lw_d {i0 t : Nat} {val : Int} {fr : Option (St × Int32)} {kk : St → Prop} (hM : Mid x b L xs i0 t s c r σ) (hr : Hx fr (RV (x + 98) c r val r' σ)) (hk : ∀ σ4 c', Mid x b L xs i0 t s c' r' σ4 → RBd c c' r r' → kk σ4) : exC fr fun σ4 v5 => if iz val = v5 then kk σ4 else False := by
  obtain ⟨σ4, v', e2, hE, rfl, c', hR, hB⟩ := hr
  refine ⟨σ4, _, e2, ?_⟩
  dsimp only
  rw [if_pos rfl]
  exact hk σ4 c' (mid_ref hM hE hR) hB
/-- a flag of the script -/
theorem fl_of (v : Int32) : ∃ f, f ≤ 1 ∧ ((v = 0 ∧ f = 0) ∨ (¬ v = 0 ∧ f = 1)) := by
  by_cases q : v = 0
  · exact ⟨0, by omega, Or.inl ⟨q, rfl⟩⟩
  · exact ⟨1, by omega, Or.inr ⟨q, rfl⟩⟩
theorem fl_if {v : Int32} {f : Nat} (hf : (v = 0 ∧ f = 0) ∨ (¬ v = 0 ∧ f = 1)) {P : Int32 → Prop} (hP : P (nI f)) : if v = 0 then P 0 else P 1 := by
  rcases hf with ⟨q, rfl⟩ | ⟨q, rfl⟩
  · rw [if_pos q]; exact hP
  · rw [if_neg q]; exact hP
theorem br_573 (hn : Nx x b L xs i k23) (hL : Lo x b L xs i s c h σ) : pL_law_573 c9 w9 k23 σ b x (x + 98) (x + 143) (nI (6 * i)) := by
  obtain ⟨o, k⟩ := hL.ki
  obtain ⟨f, hf, hv⟩ := fl_of (xs (6 * i + 1))
  refine lw_a (j := 1) hL.1 hL.2.2.2.2 (by omega) (fl_if hv (P := fun v => pL_law_588 c9 w9 k23 σ b x (x + 98) (x + 143) (nI (6 * i)) x v) ?_)
  refine lw_k hL (lw_c (t' := s.1.length) hL.1 (ki_digits k) (by omega) (by omega) (fun σ1 hM => ?_))
  refine lw_a (j := 1) hM hL.2.2.2.2 (by omega) (fl_if hv (P := fun v => pL_law_606 c9 w9 k23 σ1 b x (x + 98) (x + 143) (nI (6 * i)) _ (x + 98) v) ?_)
  have e : (dgx (if nI f = nI 0 then s.2.2.2.1.2.1 else s.2.2.2.1.2.2)) = dgx (prt s.2.2.2.1 f) := by
    have : f = 0 ∨ f = 1 := by omega
    rcases this with rfl | rfl <;> rfl
  rw [e]
  exact lw_17 hM (lw_d hM (ri_digits hf hM.2.1) (fun σ4 c' hM4 hB => nx_of (h' := h) hn hL hM4 hB rfl rfl hL.2.1))
theorem br_614 (hn : Nx x b L xs i k23) (hL : Lo x b L xs i s c h σ) : pL_law_614 c9 w9 k23 σ b x (x + 98) (x + 143) (nI (6 * i)) := by
  obtain ⟨o, k⟩ := hL.ki
  obtain ⟨f, hf, hv⟩ := fl_of (xs (6 * i + 1))
  refine lw_a (j := 1) hL.1 hL.2.2.2.2 (by omega) (fl_if hv (P := fun v => pL_law_629 c9 w9 k23 σ b x (x + 98) (x + 143) (nI (6 * i)) x v) ?_)
  refine lw_a (j := 2) hL.1 hL.2.2.2.2 (by omega) ?_
  generalize hy : xs (6 * i + 2) = v
  revert hy
  refine int_all (P := fun v => xs (6 * i + 2) = v → exW (fL_digit σ x (nI f) v (x + 143)) _) (v := v) (fun z hz hy => ?_)
  have e : (dgx (if nI f = nI 0 then s.2.2.2.1.2.1 else s.2.2.2.1.2.2)) = dgx (prt s.2.2.2.1 f) := by
    have : f = 0 ∨ f = 1 := by omega
    rcases this with rfl | rfl <;> rfl
  have hc := ki_digit (b := nI f) hz k
  rw [e] at hc
  unfold fL_digit
  refine lw_w (t' := s.1.length) (hd := fun τ E => if E = "java/lang/IndexOutOfBoundsException" then some (τ, 1) else none) hL.1 hc (hd_x (fun τ => if_pos rfl)) hd_0 (by omega) (by omega) (fun σ2 hM hj => ?_)
  refine lw_a (j := 1) hM hL.2.2.2.2 (by omega) (fl_if hv (P := fun v => pL_law_656 c9 w9 k23 σ2 b x (x + 98) (x + 143) (nI (6 * i)) _ (x + 98) v) ?_)
  refine lw_a (j := 2) hM hL.2.2.2.2 (by omega) (lw_17 hM ?_)
  rw [hy]
  exact lw_r hM hj (ri_digit hz hf hM.2.1) (fun _ => rfl) hd_9 (fun σ4 c' hM4 hB => nx_of (h' := h) hn hL hM4 hB rfl rfl hL.2.1)
theorem br_698 (hn : Nx x b L xs i k23) (hL : Lo x b L xs i s c h σ) : pL_law_698 c9 w9 k23 σ b x (x + 98) (x + 143) (nI (6 * i)) := by
  obtain ⟨o, k⟩ := hL.ki
  obtain ⟨f, hf, hv⟩ := fl_of (xs (6 * i + 1))
  refine lw_a (j := 1) hL.1 hL.2.2.2.2 (by omega) (fl_if hv (P := fun v => pL_law_713 c9 w9 k23 σ b x (x + 98) (x + 143) (nI (6 * i)) x v) ?_)
  have hc := ki_write hf k
  have fin : ∀ (s' : Kst) (val : Int), s'.1 = s.1 → Hg s' h → Hx (fX11_write σ x (nI f)) (KV x 1200 600 s' val σ) → (∀ σ1, RI σ1 (x + 98) c (rst s h) → Hx (fX12_write σ1 (x + 98) (nI f)) (RV (x + 98) c (rst s h) val (rst s' h) σ1)) → pL_law_713 c9 w9 k23 σ b x (x + 98) (x + 143) (nI (6 * i)) x (nI f) := by
    intro s' val e1 hH hc hr
    refine lw_k hL (lw_c (t' := s.1.length) hL.1 hc (by omega) (by omega) (fun σ1 hM => ?_))
    refine lw_a (j := 1) hM hL.2.2.2.2 (by omega) (fl_if hv (P := fun v => pL_law_731 c9 w9 k23 σ1 b x (x + 98) (x + 143) (nI (6 * i)) _ (x + 98) v) ?_)
    exact lw_17 hM (lw_d hM (hr σ1 hM.2.1) (fun σ4 c' hM4 hB => nx_of (h' := h) hn hL hM4 hB rfl (by rw [e1]) hH))
  by_cases c0 : f = 0
  · exact fin (wrK s (wrF s.2.2.2.1)) _ rfl hL.2.1 (hc.mo (fun σ' v g => g.1 c0)) (fun σ1 hR => (ri_write hf hR).mo (fun σ' v g => g.1 c0))
  · have c1 : f = 1 := by omega
    by_cases c2 : okD s.2.2.2.1
    · exact fin (wrK s (wrD s.2.2.2.1)) _ rfl hL.2.1 (hc.mo (fun σ' v g => g.2.1 c1 c2)) (fun σ1 hR => (ri_write hf hR).mo (fun σ' v g => g.2.1 c1 c2))
    · exact fin s (-1) rfl hL.2.1 (hc.mo (fun σ' v g => g.2.2 c1 c2)) (fun σ1 hR => (ri_write hf hR).mo (fun σ' v g => g.2.2 c1 c2))
theorem br_907 (hn : Nx x b L xs i k23) (hL : Lo x b L xs i s c h σ) : pL_law_907 c9 w9 k23 σ b x (x + 98) (x + 143) (nI (6 * i)) := by
  obtain ⟨o, k⟩ := hL.ki
  refine lw_a (j := 1) hL.1 hL.2.2.2.2 (by omega) (lw_a (j := 2) hL.1 hL.2.2.2.2 (by omega) ?_)
  generalize hv : xs (6 * i + 1) = v
  generalize hu : xs (6 * i + 2) = u
  revert hv hu
  refine int_all (P := fun v => xs (6 * i + 1) = v → xs (6 * i + 2) = u → exW (fL_compare σ x v u (x + 143)) _) (v := v) (fun z hz hv => ?_)
  refine int_all (P := fun u => xs (6 * i + 2) = u → exW (fL_compare σ x (iz z) u (x + 143)) _) (v := u) (fun y hy hu => ?_)
  unfold fL_compare
  refine lw_w (t' := s.1.length) (hd := fun τ E => if E = "java/lang/IllegalArgumentException" then some (τ, 1) else none) hL.1 (ki_compare hz hy k) (hd_x (fun τ => if_pos rfl)) hd_0 (by omega) (by omega) (fun σ2 hM hj => ?_)
  refine lw_a (j := 1) hM hL.2.2.2.2 (by omega) (lw_a (j := 2) hM hL.2.2.2.2 (by omega) (lw_17 hM ?_))
  rw [hv, hu]
  exact lw_r hM hj (ri_compare hz hy hM.2.1) (fun _ => rfl) hd_9 (fun σ4 c' hM4 hB => nx_of (h' := h) hn hL hM4 hB rfl rfl hL.2.1)
theorem br_248 (hn : Nx x b L xs i k23) (hL : Lo x b L xs i s c h σ) : pL_law_248 c9 w9 k23 σ b x (x + 98) (x + 143) (nI (6 * i)) := by
  obtain ⟨o, k⟩ := hL.ki
  have hal := apT_len s.1 (xs (6 * i + 1)) (xs (6 * i + 2)) (xs (6 * i + 3)) (xs (6 * i + 4)) (xs (6 * i + 5))
  have := lys_len (xs (6 * i + 1))
  have := lys_len (xs (6 * i + 2))
  have := lys_len (xs (6 * i + 3))
  have := lys_len (xs (6 * i + 4))
  have := lys_len (xs (6 * i + 5))
  refine lw_a (j := 1) hL.1 hL.2.2.2.2 (by omega) (lw_a (j := 2) hL.1 hL.2.2.2.2 (by omega) (lw_a (j := 3) hL.1 hL.2.2.2.2 (by omega) (lw_a (j := 4) hL.1 hL.2.2.2.2 (by omega) (lw_a (j := 5) hL.1 hL.2.2.2.2 (by omega) ?_))))
  unfold fL_append
  refine lw_w (t' := (if (apT s.1 (xs (6 * i + 1)) (xs (6 * i + 2)) (xs (6 * i + 3)) (xs (6 * i + 4)) (xs (6 * i + 5))).length ≤ 200 then (apT s.1 (xs (6 * i + 1)) (xs (6 * i + 2)) (xs (6 * i + 3)) (xs (6 * i + 4)) (xs (6 * i + 5)), s.2) else s).1.length) (hd := fun τ E => if E = "java/lang/IllegalStateException" then some (τ, 1) else none) hL.1 (ki_append k) (hd_x (fun τ => if_pos rfl)) hd_0 ?_ ?_ (fun σ2 hM hj => ?_)
  · split
    · show 0 + 6 + 20 * (apT s.1 _ _ _ _ _).length ≤ _; omega
    · omega
  · split
    · show 0 + 1 + 5 * (apT s.1 _ _ _ _ _).length ≤ _; omega
    · omega
  refine lw_a (j := 1) hM hL.2.2.2.2 (by omega) (lw_a (j := 2) hM hL.2.2.2.2 (by omega) (lw_a (j := 3) hM hL.2.2.2.2 (by omega) (lw_a (j := 4) hM hL.2.2.2.2 (by omega) (lw_a (j := 5) hM hL.2.2.2.2 (by omega) (lw_17 hM ?_)))))
  exact lw_r hM hj (ri_append hM.2.1) (fun _ => rfl) hd_9 (fun σ4 c' hM4 hB => nx_of (h' := h) hn hL hM4 hB (rst_if rfl rfl) rfl (by split <;> exact hL.2.1))
end
