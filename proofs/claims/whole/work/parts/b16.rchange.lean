/-! ===== the reference: a change is kept ===== -/
theorem rf_changes_52 {m N : Nat} {S : Nat → Int32} (hN : N ≤ 19) : ∀ (n i : Nat) (σ : St), 252 - i < n → i ≤ 252 → MS σ m → Fi σ m 72 (nI N) → sA σ (m + 38) = S → (∀ x, x < i → sA σ (m + 39) (252 * N + x) = S x) →
    Hx (fX12_changes_52 n σ m (nI i)) (fun σ' _ => rfM m [72, 73] [39] nV σ σ' ∧ Fi σ' m 72 (nI (N + 1)) ∧ Fi σ' m 73 (nI 0) ∧ (∀ q, q < 252 * N → sA σ' (m + 39) q = sA σ (m + 39) q) ∧ ∀ x, x < 252 → sA σ' (m + 39) (252 * N + x) = S x) := by
  intro n
  induction n with
  | zero => intro i σ h; omega
  | succ n ih =>
    intro i σ hn hi hm h72 hS hW
    rw [n_fX12_changes_52]
    refine Hx.ce (sm_le (by omega) (by omega)) (fun c => ?_) (fun c => ?_)
    · rw [fi_g hm h72]
      refine hx_bs ?_
      obtain ⟨σa, ea⟩ : ∃ s, s = wI σ (fid 16 72) m (nI (N + 1)) := ⟨_, rfl⟩
      have wa : rfM m [72, 73] [39] nV σ σa := by rw [ea]; exact rfM.wI (by simp)
      have hma := wa.ms hm
      rw [sm_add, rf_pI hm, ← ea]
      refine hx_bs ?_
      rw [rf_pI hma]
      refine hx_bs (Hx.ret ⟨wa.tr (rfM.wI (by simp)), fi_wn (by rw [ea]; exact fi_wI) (by decide), fi_wI, fun q _ => by rw [sA_wI_, ea, sA_wI_], fun x hx => ?_⟩)
      rw [sA_wI_, ea, sA_wI_]
      exact hW x (by omega)
    · have w : rfM m [72, 73] [39] nV σ (wA σ (m + 39) (252 * N + i) (S i)) := rfM.wA (by simp) (by omega)
      rw [rf_undos hm]
      refine hx_bs ?_
      rw [fi_g hm h72]
      refine hx_bs ?_
      rw [rf_saved hm]
      refine hx_bs ?_
      rw [ld_saved hm (by omega), hS]
      refine hx_bs ?_
      rw [sm_mul, sm_add, st_undos hm (by omega)]
      refine hx_bs (hx_nm ?_)
      rw [sm_add]
      refine (ih (i + 1) (wA σ (m + 39) (252 * N + i) (S i)) (by omega) (by omega) (w.ms hm) (fi_wA h72) (by rw [sA_wA_b (by omega)]; exact hS) (fun x hx => ?_)).mo ?_
      · by_cases e : x = i
        · subst e; exact sA_wA_eq
        · rw [sA_wA_j (by omega)]; exact hW x (by omega)
      · rintro σ' _ ⟨g1, g2, g3, g4, g5⟩
        exact ⟨w.tr g1, g2, g3, fun q hq => by rw [g4 q hq, sA_wA_j (by omega)], g5⟩
theorem rf_changes_50 {m : Nat} {s : Rd} {U : List Rd} {σ : St} (hm : MS σ m) (hU : U.length ≤ 19) (h72 : Fi σ m 72 (nI U.length)) (h : RHs σ m 39 U) (hs : Rda (snpR (sA σ (m + 38)) 0) s) :
    Hx (fX12_changes_50 σ m) (fun σ' _ => rfM m [72, 73] [39] nV σ σ' ∧ Fi σ' m 72 (nI (U ++ [s]).length) ∧ Fi σ' m 73 (nI 0) ∧ RHs σ' m 39 (U ++ [s])) := by
  rw [n_fX12_changes_50]
  refine (rf_changes_52 hU FU 0 σ (by unfold FU; omega) (by omega) hm h72 rfl (fun x hx => by omega)).mo ?_
  rintro σ' _ ⟨g1, g2, g3, g4, g5⟩
  refine ⟨g1, by rw [List.length_append, List.length_singleton]; exact g2, g3, fun k y hy => ?_⟩
  by_cases e : k < U.length
  · rw [List.getElem?_append_left e] at hy
    refine (snpR_w (fun i i1 i2 => g4 i (by omega))).tr (h k y hy)
  · have e2 : k = U.length := by
      have := (List.getElem?_eq_some_iff.mp hy).1
      rw [List.length_append, List.length_singleton] at this
      omega
    subst e2
    rw [List.getElem?_append_right (Nat.le_refl _), Nat.sub_self] at hy
    have hy : s = y := Option.some.inj hy
    rw [← hy]
    refine Rda.tr ?_ hs
    have g : ∀ i, i < 252 → sA σ' (m + 39) (252 * U.length + i) = sA σ (m + 38) (0 + i) := fun i hi => by rw [Nat.zero_add]; exact g5 i hi
    refine ⟨g 0 (by omega), g 1 (by omega), fun t ht => ⟨?_, ?_, ?_⟩, fun r hr => ?_, fun i hi => ?_⟩
    · have := g (2 + 3 * t) (by omega)
      rw [show 252 * U.length + (2 + 3 * t) = 252 * U.length + 2 + 3 * t by omega, show 0 + (2 + 3 * t) = 0 + 2 + 3 * t by omega] at this
      exact this
    · have := g (2 + 3 * t + 1) (by omega)
      rw [show 252 * U.length + (2 + 3 * t + 1) = 252 * U.length + 2 + 3 * t + 1 by omega, show 0 + (2 + 3 * t + 1) = 0 + 2 + 3 * t + 1 by omega] at this
      exact this
    · have := g (2 + 3 * t + 2) (by omega)
      rw [show 252 * U.length + (2 + 3 * t + 2) = 252 * U.length + 2 + 3 * t + 2 by omega, show 0 + (2 + 3 * t + 2) = 0 + 2 + 3 * t + 2 by omega] at this
      exact this
    · have := g (92 + 51 * r) (by omega)
      rw [show 252 * U.length + (92 + 51 * r) = 252 * U.length + 92 + 51 * r by omega, show 0 + (92 + 51 * r) = 0 + 92 + 51 * r by omega] at this
      exact this
    · have := g (92 + 51 * (i / 50) + 1 + i % 50) (by omega)
      rw [show 252 * U.length + (92 + 51 * (i / 50) + 1 + i % 50) = 252 * U.length + 92 + 51 * (i / 50) + 1 + i % 50 by omega, show 0 + (92 + 51 * (i / 50) + 1 + i % 50) = 0 + 92 + 51 * (i / 50) + 1 + i % 50 by omega] at this
      exact this
theorem rf_changes_11 {m : Nat} {R : Nat → Int32} {P : St → Unit → Prop} (h72 : ∀ σ, rfM m [72, 73] [39] nV σ σ) : ∀ (n i : Nat) (σ : St), 4788 - i < n → i ≤ 4788 → MS σ m → Fi σ m 72 (nI 20) → (∀ q, i ≤ q → sA σ (m + 39) q = R q) → (∀ q, q < i → sA σ (m + 39) q = R (q + 252)) →
    (∀ σ', rfM m [72, 73] [39] nV σ σ' → Fi σ' m 72 (nI 19) → (∀ q, q < 4788 → sA σ' (m + 39) q = R (q + 252)) → Hx (fX12_changes_50 σ' m) P) → Hx (fX12_changes_11 n σ m (nI i)) P := by
  intro n
  induction n with
  | zero => intro i σ h; omega
  | succ n ih =>
    intro i σ hn hi hm h20 h1 h2 hK
    rw [n_fX12_changes_11]
    refine Hx.ce (sm_le (by omega) (by omega)) (fun c => ?_) (fun c => ?_)
    · rw [fi_g hm h20]
      refine hx_bs ?_
      rw [sm_sub (by omega), rf_pI hm]
      refine hx_bs ?_
      exact hK _ (rfM.wI (by simp)) fi_wI (fun q hq => by rw [sA_wI_]; exact h2 q (by omega))
    · have w : rfM m [72, 73] [39] nV σ (wA σ (m + 39) i (R (i + 252))) := rfM.wA (by simp) (by omega)
      rw [rf_undos hm]
      refine hx_bs (hx_bs ?_)
      rw [sm_add, ld_undos hm (by omega), h1 _ (by omega)]
      refine hx_bs ?_
      rw [st_undos hm (by omega)]
      refine hx_bs (hx_nm ?_)
      rw [sm_add]
      refine ih (i + 1) _ (by omega) (by omega) (w.ms hm) (fi_wA h20) (fun q hq => ?_) (fun q hq => ?_) (fun σ' g1 g2 g3 => hK σ' (w.tr g1) g2 g3)
      · rw [sA_wA_j (by omega)]; exact h1 q (by omega)
      · by_cases e : q = i
        · subst e; exact sA_wA_eq
        · rw [sA_wA_j (by omega)]; exact h2 q (by omega)
theorem rf_changes {m : Nat} {s : Rd} {U : List Rd} {σ : St} (hm : MS σ m) (hU : U.length ≤ 20) (h72 : Fi σ m 72 (nI U.length)) (h : RHs σ m 39 U) (hs : Rda (snpR (sA σ (m + 38)) 0) s) :
    Hx (fX12_changes σ m) (fun σ' _ => rfM m [72, 73] [39] nV σ σ' ∧ ∃ U', U' = (if U.length = 20 then U.tail else U) ++ [s] ∧ Fi σ' m 72 (nI U'.length) ∧ Fi σ' m 73 (nI 0) ∧ RHs σ' m 39 U') := by
  rw [n_fX12_changes, fi_g hm h72]
  refine hx_bs (Hx.ce (sm_eq (by omega) (by omega)) (fun c => ?_) (fun c => ?_))
  · rw [c] at h72
    refine rf_changes_11 (R := sA σ (m + 39)) (fun σ => rfM.rf) FU 0 σ (by unfold FU; omega) (by omega) hm h72 (fun _ _ => rfl) (fun q hq => by omega) (fun σ1 g1 g2 g3 => ?_)
    have el : U.tail.length = 19 := by rw [List.length_tail]; omega
    refine (rf_changes_50 (U := U.tail) (s := s) (g1.ms hm) (by omega) (by rw [el]; exact g2) (fun k y hy => ?_) ?_).mo ?_
    · have hk := (List.getElem?_eq_some_iff.mp hy).1
      rw [List.getElem?_tail] at hy
      refine Rda.tr ?_ (h (k + 1) y hy)
      have g : ∀ i, i < 252 → sA σ1 (m + 39) (252 * k + i) = sA σ (m + 39) (252 * (k + 1) + i) := fun i hi => by
        rw [g3 _ (by omega), show 252 * k + i + 252 = 252 * (k + 1) + i by omega]
      refine ⟨g 0 (by omega), g 1 (by omega), fun t ht => ⟨?_, ?_, ?_⟩, fun r hr => ?_, fun i hi => ?_⟩
      · have := g (2 + 3 * t) (by omega)
        rw [← Nat.add_assoc, ← Nat.add_assoc] at this
        exact this
      · have := g (2 + 3 * t + 1) (by omega)
        rw [← Nat.add_assoc, ← Nat.add_assoc, ← Nat.add_assoc, ← Nat.add_assoc] at this
        exact this
      · have := g (2 + 3 * t + 2) (by omega)
        rw [← Nat.add_assoc, ← Nat.add_assoc, ← Nat.add_assoc, ← Nat.add_assoc] at this
        exact this
      · have := g (92 + 51 * r) (by omega)
        rw [← Nat.add_assoc, ← Nat.add_assoc] at this
        exact this
      · have := g (92 + 51 * (i / 50) + 1 + i % 50) (by omega)
        rw [← Nat.add_assoc, ← Nat.add_assoc, ← Nat.add_assoc, ← Nat.add_assoc, ← Nat.add_assoc, ← Nat.add_assoc] at this
        exact this
    · rw [g1.ar 38 ⟨by decide, by omega, by omega⟩]; exact hs
    · rintro σ2 _ ⟨u1, u2, u3, u4⟩
      exact ⟨g1.tr u1, _, by rw [if_pos c], u2, u3, u4⟩
  · refine (rf_changes_50 hm (by omega) h72 h hs).mo ?_
    rintro σ2 _ ⟨u1, u2, u3, u4⟩
    exact ⟨u1, _, by rw [if_neg c], u2, u3, u4⟩
theorem rf_remembers_2 {m : Nat} : ∀ (n i : Nat) (σ : St), 30 - i < n → i ≤ 30 → MS σ m → Hx (fX12_remembers_2 n σ m (nI i)) (fun σ' _ => rfM m [61, 62] [30, 31, 32] nV σ σ') := by
  intro n
  induction n with
  | zero => intro i σ h; omega
  | succ n ih =>
    intro i σ hn hi hm
    rw [n_fX12_remembers_2]
    refine Hx.ce (sm_le (by omega) (by omega)) (fun c => ?_) (fun c => ?_)
    · rw [rf_gI hm]
      refine hx_bs ?_
      rw [rf_pI hm]
      refine hx_bs ?_
      rw [rf_gI (ms_wI hm)]
      refine hx_bs ?_
      rw [rf_pI (ms_wI hm)]
      exact hx_bs (Hx.ret ((rfM.wI (by simp)).tr (rfM.wI (by simp))))
    · rw [rf_wasWord hm]
      refine hx_bs ?_
      rw [rf_word hm]
      refine hx_bs ?_
      rw [ld_word hm (by omega)]
      refine hx_bs ?_
      obtain ⟨σa, ea⟩ : ∃ s, s = wA σ (m + 30) i (sA σ (m + 18) i) := ⟨_, rfl⟩
      have wa : rfM m [61, 62] [30, 31, 32] nV σ σa := by rw [ea]; exact rfM.wA (by simp) (by omega)
      have hma := wa.ms hm
      rw [st_wasWord hm (by omega), ← ea]
      refine hx_bs ?_
      rw [rf_wasDef hma]
      refine hx_bs ?_
      rw [rf_def hma]
      refine hx_bs ?_
      rw [ld_def hma (by omega)]
      refine hx_bs ?_
      obtain ⟨σb, eb⟩ : ∃ s, s = wA σa (m + 31) i (sA σa (m + 19) i) := ⟨_, rfl⟩
      have wb : rfM m [61, 62] [30, 31, 32] nV σa σb := by rw [eb]; exact rfM.wA (by simp) (by omega)
      have hmb := wb.ms hma
      rw [st_wasDef hma (by omega), ← eb]
      refine hx_bs ?_
      rw [rf_wasValue hmb]
      refine hx_bs ?_
      rw [rf_valueOf hmb]
      refine hx_bs ?_
      rw [ld_valueOf hmb (by omega)]
      refine hx_bs ?_
      rw [st_wasValue hmb (by omega)]
      refine hx_bs (hx_nm ?_)
      have wc : rfM m [61, 62] [30, 31, 32] nV σb (wA σb (m + 32) i (sA σb (m + 20) i)) := rfM.wA (by simp) (by omega)
      rw [sm_add]
      exact (ih (i + 1) _ (by omega) (by omega) (wc.ms hmb)).mo (fun σ' _ g => wa.tr (wb.tr (wc.tr g)))
theorem rf_remembers {m : Nat} {σ : St} (hm : MS σ m) : Hx (fX12_remembers σ m) (fun σ' _ => rfM m [61, 62] [30, 31, 32] nV σ σ') := by
  rw [n_fX12_remembers]
  exact rf_remembers_2 FU 0 σ (by unfold FU; omega) (by omega) hm
theorem rf_recalls_2 {m : Nat} : ∀ (n i : Nat) (σ : St), 30 - i < n → i ≤ 30 → MS σ m → Hx (fX12_recalls_2 n σ m (nI i)) (fun σ' _ => rfM m [40, 41] [18, 19, 20] nV σ σ') := by
  intro n
  induction n with
  | zero => intro i σ h; omega
  | succ n ih =>
    intro i σ hn hi hm
    rw [n_fX12_recalls_2]
    refine Hx.ce (sm_le (by omega) (by omega)) (fun c => ?_) (fun c => ?_)
    · rw [rf_gI hm]
      refine hx_bs ?_
      rw [rf_pI hm]
      refine hx_bs ?_
      rw [rf_gI (ms_wI hm)]
      refine hx_bs ?_
      rw [rf_pI (ms_wI hm)]
      exact hx_bs (Hx.ret ((rfM.wI (by simp)).tr (rfM.wI (by simp))))
    · rw [rf_word hm]
      refine hx_bs ?_
      rw [rf_wasWord hm]
      refine hx_bs ?_
      rw [ld_wasWord hm (by omega)]
      refine hx_bs ?_
      obtain ⟨σa, ea⟩ : ∃ s, s = wA σ (m + 18) i (sA σ (m + 30) i) := ⟨_, rfl⟩
      have wa : rfM m [40, 41] [18, 19, 20] nV σ σa := by rw [ea]; exact rfM.wA (by simp) (by omega)
      have hma := wa.ms hm
      rw [st_word hm (by omega), ← ea]
      refine hx_bs ?_
      rw [rf_def hma]
      refine hx_bs ?_
      rw [rf_wasDef hma]
      refine hx_bs ?_
      rw [ld_wasDef hma (by omega)]
      refine hx_bs ?_
      obtain ⟨σb, eb⟩ : ∃ s, s = wA σa (m + 19) i (sA σa (m + 31) i) := ⟨_, rfl⟩
      have wb : rfM m [40, 41] [18, 19, 20] nV σa σb := by rw [eb]; exact rfM.wA (by simp) (by omega)
      have hmb := wb.ms hma
      rw [st_def hma (by omega), ← eb]
      refine hx_bs ?_
      rw [rf_valueOf hmb]
      refine hx_bs ?_
      rw [rf_wasValue hmb]
      refine hx_bs ?_
      rw [ld_wasValue hmb (by omega)]
      refine hx_bs ?_
      rw [st_valueOf hmb (by omega)]
      refine hx_bs (hx_nm ?_)
      have wc : rfM m [40, 41] [18, 19, 20] nV σb (wA σb (m + 20) i (sA σb (m + 32) i)) := rfM.wA (by simp) (by omega)
      rw [sm_add]
      exact (ih (i + 1) _ (by omega) (by omega) (wc.ms hmb)).mo (fun σ' _ g => wa.tr (wb.tr (wc.tr g)))
theorem rf_recalls {m : Nat} {σ : St} (hm : MS σ m) : Hx (fX12_recalls σ m) (fun σ' _ => rfM m [40, 41] [18, 19, 20] nV σ σ') := by
  rw [n_fX12_recalls]
  exact rf_recalls_2 FU 0 σ (by unfold FU; omega) (by omega) hm
