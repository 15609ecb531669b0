/-! ===== the reference: values kept ===== -/
theorem rm_w3 {m i : Nat} {F A : List Nat} {V : Nat → Prop} {σ : St} {v : Int32} (hi : V i) : rfM m F A V σ (wA σ (m + 3) i v) :=
  ⟨rfE.wA (by omega), fun _ _ => rfl, fun k _ h3 _ => sA_wA_b (by omega), fun q hq => ⟨sA_wA_j (fun e => hq (e ▸ hi)), fun _ _ => by rw [sA_wA_b (by omega)]⟩⟩
theorem rm_w4 {m i o : Nat} {F A : List Nat} {V : Nat → Prop} {σ : St} {v : Int32} (hi : V i) (ho : o < 16) : rfM m F A V σ (wA σ (m + 4) (16 * i + o) v) :=
  ⟨rfE.wA (by omega), fun _ _ => rfl, fun k _ _ h4 => sA_wA_b (by omega), fun q hq => ⟨by rw [sA_wA_b (by omega)], fun k hk => sA_wA_j (by
    intro e
    have : q = i := by omega
    exact hq (this ▸ hi))⟩⟩
theorem rf_copiesValue_loop {m t f : Nat} {g : Nat → Int32} (ht : t < 12600) (hf : f < 12600) : ∀ (n : Nat) (σ : St) (k : Nat), MS σ m → 16 - k < n → k ≤ 16 → (∀ j, j < 16 → sA σ (m + 4) (16 * f + j) = g j) → (∀ j, j < k → sA σ (m + 4) (16 * t + j) = g j) →
    Hx (fX12_copiesValue_14 n σ m (nI t) (nI f) (nI k)) fun σ' _ => rfM m [] [] (fun i => i = t) σ σ' ∧ sA σ' (m + 3) = sA σ (m + 3) ∧ ∀ j, j < 16 → sA σ' (m + 4) (16 * t + j) = g j := by
  intro n
  induction n with
  | zero => intro σ k _ h; omega
  | succ n ih =>
    intro σ k hm hn hk h1 h2
    rw [n_fX12_copiesValue_14]
    refine Hx.ce (sm_le (by omega) (by omega)) (fun hc => ?_) (fun hc => ?_)
    · exact Hx.ret ⟨rfM.rf, rfl, fun j hj => h2 j (by omega)⟩
    · have g1 := h1 k (by omega)
      have w : rfM m [] [] (fun i => i = t) σ (wA σ (m + 4) (16 * t + k) (g k)) := rm_w4 rfl (by omega)
      rw [rf_part hm]
      refine hx_bs (hx_bs ?_)
      rw [sm_mul, sm_add, ld_part hm (by omega), g1]
      refine hx_bs ?_
      rw [sm_mul, sm_add, st_part hm (by omega)]
      refine hx_bs (hx_nm ?_)
      rw [sm_add]
      refine (ih (wA σ (m + 4) (16 * t + k) (g k)) (k + 1) hm (by omega) (by omega) (fun j hj => ?_) (fun j hj => ?_)).mo ?_
      · by_cases e : 16 * f + j = 16 * t + k
        · rw [e, sA_wA_eq]
          congr 1
          omega
        · rw [sA_wA_j e]; exact h1 j hj
      · by_cases e : j = k
        · subst e; exact sA_wA_eq
        · rw [sA_wA_j (by omega)]; exact h2 j (by omega)
      · rintro σ' v ⟨q1, q2, q3⟩
        exact ⟨w.tr q1, by rw [q2, sA_wA_b (by omega)], q3⟩
theorem rf_copiesValue {m t f : Nat} {q : Qv} {σ : St} (hm : MS σ m) (ht : t < 12600) (hf : f < 12600) (hV : Vl σ m f q) : Hx (fX12_copiesValue σ m (nI t) (nI f)) fun σ' _ => rfM m [] [] (fun i => i = t) σ σ' ∧ Vl σ' m t q := by
  obtain ⟨h0, h1, h2, h3⟩ := hV
  have w : rfM m [] [] (fun i => i = t) σ (wA σ (m + 3) t (iz q.1)) := rm_w3 rfl
  rw [n_fX12_copiesValue, rf_sign hm]
  refine hx_bs (hx_bs ?_)
  rw [ld_sign hm hf, h1]
  refine hx_bs ?_
  rw [st_sign hm ht]
  refine hx_bs ?_
  refine (rf_copiesValue_loop (g := fun j => if j < 8 then nI (dq q.2.1 j % 10000) else nI (dq q.2.2 (j - 8) % 10000)) ht hf FU (wA σ (m + 3) t (iz q.1)) 0 hm (by unfold FU; omega) (by omega) (fun j hj => ?_) (fun j hj => by omega)).mo ?_
  · rw [sA_wA_b (by omega)]
    by_cases h8 : j < 8
    · rw [if_pos h8]; exact h2 j h8
    · rw [if_neg h8]
      have := h3 (j - 8) (by omega)
      rw [show 16 * f + 8 + (j - 8) = 16 * f + j by omega] at this
      exact this
  · rintro σ' v ⟨q1, q2, q3⟩
    refine ⟨w.tr q1, h0, ?_, fun k hk => ?_, fun k hk => ?_⟩
    · rw [q2, sA_wA_eq]
    · have := q3 k (by omega)
      rw [if_pos hk] at this
      exact this
    · have := q3 (8 + k) (by omega)
      rw [if_neg (by omega), show 16 * t + (8 + k) = 16 * t + 8 + k by omega, show 8 + k - 8 = k by omega] at this
      exact this
theorem rf_newValue {m vm : Nat} {σ : St} (hm : MS σ m) (h5 : Fi σ m 5 (nI vm)) (hv : vm < 12600) : fX12_newValue σ m = some (wI σ (fid 16 5) m (nI (vm + 1)), nI vm) := by
  apply hx_eq
  rw [n_fX12_newValue, fi_g hm h5]
  refine hx_bs ?_
  rw [sm_add, rf_pI hm]
  refine hx_bs ?_
  rw [fi_g (ms_wI hm) fi_wI]
  refine hx_bs ?_
  rw [sm_sub (by omega), Nat.add_sub_cancel]
  exact Hx.ret ⟨rfl, rfl⟩
theorem rf_keeps {m vm i : Nat} {q : Qv} {σ : St} (hm : MS σ m) (h5 : Fi σ m 5 (nI vm)) (hv : 600 ≤ vm ∧ vm < 12600) (hV : Vl σ m i q) (hi : i < 600 ∨ i < vm) : Hx (fX12_keeps σ m (nI i)) fun σ' v => ∃ i' vm', v = nI i' ∧ Fi σ' m 5 (nI vm') ∧ (vm ≤ vm' ∧ vm' ≤ vm + 1) ∧ (600 ≤ i' ∧ i' < vm') ∧ Vl σ' m i' q ∧ rfM m [5] [] (fun j => j = vm) σ σ' := by
  rw [n_fX12_keeps]
  refine Hx.ce (sm_lt (by omega) (by omega)) (fun c => ?_) (fun c => Hx.ret ⟨i, vm, rfl, h5, ⟨by omega, by omega⟩, ⟨by omega, by omega⟩, hV, rfM.rf⟩)
  · rw [rf_ck hm]
    refine hx_bs ?_
    rw [rf_newValue hm h5 hv.2]
    refine hx_cs ?_
    have w : rfM m [5] [] (fun j => j = vm) σ (wI σ (fid 16 5) m (nI (vm + 1))) := rfM.wI (by simp)
    rw [rf_ck (ms_wI hm)]
    refine hx_bs ?_
    refine Hx.bd (rf_copiesValue (σ := wI σ (fid 16 5) m (nI (vm + 1))) hm hv.2 (by omega) (hV.keepM (V := nV) (rfM.wI (F := [5]) (A := []) (by simp)) (fun h => h))) (fun σ1 v h => ?_)
    obtain ⟨q1, q2⟩ := h
    exact Hx.ret ⟨vm, vm + 1, rfl, Fi.keep (f := 5) fi_wI q1 (by simp), ⟨by omega, by omega⟩, ⟨by omega, by omega⟩, q2, w.tr (q1.mo (by simp) (fun _ h => h))⟩
theorem rf_keepsMade {m vm x y u : Nat} {s : Int} {σ : St} (hm : MS σ m) (h5 : Fi σ m 5 (nI vm)) (hv : vm < 12600) (hu : u ≤ 978) (hx : x < 10000 ^ u) (hy : y < 10000 ^ u) (h0 : 0 < y) (hs : x ≠ 0 → s = 1 ∨ s = -1) (hA : Rv σ m 6 x) (hB : Rv σ m 7 y) :
    Hx (fX12_keepsMade σ m (iz s)) fun σ' v => rfM m [5] [1, 2] (fun j => j = vm) σ σ' ∧ (qsm (qmk s x y) → v = nI vm ∧ Fi σ' m 5 (nI (vm + 1)) ∧ Vl σ' m vm (qmk s x y)) ∧ (¬ qsm (qmk s x y) → v = iz (-1) ∧ Fi σ' m 5 (nI vm)) := by
  have w : rfM m [5] [1, 2] (fun j => j = vm) σ (wI σ (fid 16 5) m (nI (vm + 1))) := rfM.wI (by simp)
  have hm1 : MS (wI σ (fid 16 5) m (nI (vm + 1))) m := hm
  have F1 : Fi (wI σ (fid 16 5) m (nI (vm + 1))) m 5 (nI (vm + 1)) := fi_wI
  have hA1 : Rv (wI σ (fid 16 5) m (nI (vm + 1))) m 6 x := hA
  have hB1 : Rv (wI σ (fid 16 5) m (nI (vm + 1))) m 7 y := hB
  rw [n_fX12_keepsMade, rf_ck hm]
  refine hx_bs ?_
  rw [rf_newValue hm h5 hv]
  refine hx_cs ?_
  rw [rf_ck hm1]
  refine hx_bs ?_
  obtain ⟨σ2, e2, hR2, hV2⟩ := rf_lays hm1 hv hu hx hy h0 hs hA1 hB1
  rw [e2]
  have hm2 := hR2.ms hm1
  have F2 : Fi σ2 m 5 (nI (vm + 1)) := F1.keep hR2.M (by simp)
  refine hx_cs (Hx.ce nb0 (fun c => ?_) (fun c => ?_))
  · rw [fi_g hm2 F2]
    refine hx_bs ?_
    rw [sm_sub (by omega), Nat.add_sub_cancel, rf_pI hm2]
    refine hx_bs (Hx.ret ⟨(w.tr (hR2.M.mo (by simp) (fun j h => h.1))).tr (rfM.wI (by simp)), fun q => absurd q c, fun _ => ⟨rfl, fi_wI⟩⟩)
  · have c := Classical.not_not.mp c
    exact Hx.ret ⟨w.tr (hR2.M.mo (by simp) (fun j h => h.1)), fun _ => ⟨rfl, F2, hV2 c⟩, fun q => absurd c q⟩
theorem rf_becomes {m vm i : Nat} {q : Qv} {σ : St} (hm : MS σ m) (h5 : Fi σ m 5 (nI vm)) (hv : 600 ≤ vm ∧ vm < 12600) (hV : Vl σ m i q) (hi : i < 600 ∨ i < vm) : Hx (fX12_becomes σ m (nI i)) fun σ' v => v = iz q.1 ∧ ∃ i' vm', Fi σ' m 57 (nI i') ∧ Fi σ' m 5 (nI vm') ∧ (vm ≤ vm' ∧ vm' ≤ vm + 1) ∧ (600 ≤ i' ∧ i' < vm') ∧ Vl σ' m i' q ∧ rfM m [5, 57] [] (fun j => j = vm) σ σ' := by
  rw [n_fX12_becomes, rf_ck hm]
  refine hx_bs ?_
  refine Hx.bd (rf_keeps hm h5 hv hV hi) (fun σ1 v h => ?_)
  obtain ⟨i', vm', rfl, h1, h2, h3, h4, h5⟩ := h
  have hm1 := h5.ms hm
  have w : rfM m [5, 57] [] (fun j => j = vm) σ1 (wI σ1 (fid 16 57) m (nI i')) := rfM.wI (by simp)
  have hm2 : MS (wI σ1 (fid 16 57) m (nI i')) m := hm1
  have h4' : Vl (wI σ1 (fid 16 57) m (nI i')) m i' q := h4
  rw [rf_pI hm1]
  refine hx_bs ?_
  rw [rf_sign hm2]
  refine hx_bs ?_
  rw [fi_g hm2 fi_wI]
  refine hx_bs ?_
  rw [ld_sign hm2 (by omega), h4'.2.1]
  exact hx_bs (Hx.ret ⟨rfl, i', vm', fi_wI, fi_wn h1 (by decide), h2, h3, h4', (h5.mo (by simp) (fun _ h => h)).tr w⟩)
