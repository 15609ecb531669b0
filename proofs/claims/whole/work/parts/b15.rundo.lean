/-! ===== the reference: its history ===== -/
theorem snoc_or {α : Type} : ∀ l : List α, l = [] ∨ ∃ L b, l = L ++ [b] := by
  intro l
  induction l with
  | nil => exact Or.inl rfl
  | cons a l ih =>
    rcases ih with rfl | ⟨L, b, rfl⟩
    · exact Or.inr ⟨[], a, rfl⟩
    · exact Or.inr ⟨a :: L, b, rfl⟩
theorem curR_k {m : Nat} {F A : List Nat} {V : Nat → Prop} {σ σ' : St} (h : rfM m F A V σ σ') (hF : 40 ∉ F ∧ 41 ∉ F) (hA : 18 ∉ A ∧ 19 ∉ A ∧ 20 ∉ A ∧ 36 ∉ A ∧ 37 ∉ A) : curR σ' m = curR σ m := by
  unfold curR
  rw [h.fd hF.1, h.fd hF.2, h.ar 18 ⟨hA.1, by omega, by omega⟩, h.ar 19 ⟨hA.2.1, by omega, by omega⟩, h.ar 20 ⟨hA.2.2.1, by omega, by omega⟩, h.ar 36 ⟨hA.2.2.2.1, by omega, by omega⟩, h.ar 37 ⟨hA.2.2.2.2, by omega, by omega⟩]
def RHs (σ : St) (m a : Nat) (l : List Rd) : Prop := ∀ (k : Nat) (q : Rd), l[k]? = some q → Rda (snpR (sA σ (m + a)) (252 * k)) q
/-- the state that holds now, and those before and behind it -/
def RHi (σ : St) (m : Nat) (c : Rd) (U D : List Rd) : Prop := Rda (curR σ m) c ∧ (Fi σ m 72 (nI U.length) ∧ Fi σ m 73 (nI D.length)) ∧ U.length + D.length ≤ 20 ∧ RHs σ m 39 U ∧ RHs σ m 40 D
theorem rf_undo {m : Nat} {c : Rd} {U D : List Rd} {σ : St} (hm : MS σ m) (h : RHi σ m c U D) : Hx (fX12_undo σ m) (fun σ' v => (U = [] ∧ v = iz (-1) ∧ rfM m [0] [] nV σ σ') ∨ ∃ U' q, U = U' ++ [q] ∧ v = nI U'.length ∧ RHi σ' m q U' (D ++ [c]) ∧ rfM m [0, 40, 41, 72, 73] [18, 19, 20, 36, 37, 40] nV σ σ') := by
  obtain ⟨hc, ⟨h72, h73⟩, hl, hU, hD⟩ := h
  obtain ⟨σ1, e1⟩ : ∃ s, s = wI σ (fid 16 0) m (nI 0) := ⟨_, rfl⟩
  have w1 : rfM m [0] [] nV σ σ1 := by rw [e1]; exact rfM.wI (by simp)
  have hm1 := w1.ms hm
  have f72 := h72.keep w1 (by decide)
  have f73 := h73.keep w1 (by decide)
  have c1 : curR σ1 m = curR σ m := curR_k w1 (by decide) (by decide)
  rw [n_fX12_undo, rf_pI hm, ← e1]
  refine hx_bs ?_
  rw [fi_g hm1 f72]
  refine hx_bs (Hx.ce (sm_eq (by omega) (by omega)) (fun d => ?_) (fun d => ?_))
  · exact Hx.ret (Or.inl ⟨List.length_eq_zero_iff.mp d, rfl, w1⟩)
  rcases snoc_or U with rfl | ⟨U', q, rfl⟩
  · exact absurd rfl d
  rw [List.length_append, List.length_singleton] at hl f72
  rw [rf_redos hm1]
  refine hx_bs ?_
  rw [fi_g hm1 f73]
  refine hx_bs ?_
  rw [rf_ck hm1]
  refine hx_bs ?_
  rw [sm_mul]
  refine Hx.bd (rf_writesState (o := 252 * D.length) Sar_redos (by omega) hm1) (fun σ6 _ g => ?_)
  obtain ⟨g1, g2, g3⟩ := g
  have hm6 := g1.ms hm1
  have k73 := f73.keep g1 (by decide)
  have k72 := f72.keep g1 (by decide)
  rw [fi_g hm6 k73]
  refine hx_bs ?_
  obtain ⟨σa, ea⟩ : ∃ s, s = wI σ6 (fid 16 73) m (nI (D.length + 1)) := ⟨_, rfl⟩
  have wa : rfM m [72, 73] [] nV σ6 σa := by rw [ea]; exact rfM.wI (by simp)
  have hma := wa.ms hm6
  have a72 : Fi σa m 72 (nI (U'.length + 1)) := by rw [ea]; exact fi_wn k72 (by decide)
  have a73 : Fi σa m 73 (nI (D.length + 1)) := by rw [ea]; exact fi_wI
  rw [sm_add, rf_pI hm6, ← ea]
  refine hx_bs ?_
  rw [fi_g hma a72]
  refine hx_bs ?_
  obtain ⟨σb, eb⟩ : ∃ s, s = wI σa (fid 16 72) m (nI U'.length) := ⟨_, rfl⟩
  have wb : rfM m [72, 73] [] nV σa σb := by rw [eb]; exact rfM.wI (by simp)
  have hmb := wb.ms hma
  have b72 : Fi σb m 72 (nI U'.length) := by rw [eb]; exact fi_wI
  have b73 : Fi σb m 73 (nI (D.length + 1)) := by rw [eb]; exact fi_wn a73 (by decide)
  rw [sm_sub (by omega), Nat.add_sub_cancel, rf_pI hma, ← eb]
  refine hx_bs ?_
  rw [rf_undos hmb]
  refine hx_bs ?_
  rw [fi_g hmb b72]
  refine hx_bs ?_
  rw [rf_ck hmb]
  refine hx_bs ?_
  rw [sm_mul]
  refine Hx.bd (rf_readsState (o := 252 * U'.length) Sar_undos (by omega) hmb) (fun σ7 _ u => ?_)
  obtain ⟨u1, u2⟩ := u
  have hm7 := u1.ms hmb
  rw [fi_g hm7 (b72.keep u1 (by decide))]
  refine hx_bs (Hx.ret (Or.inr ⟨U', q, rfl, rfl, ?_, ?_⟩))
  · have r39 : sA σ7 (m + 39) = sA σ (m + 39) := by
      rw [u1.ar 39 ⟨by decide, by omega, by omega⟩, wb.ar 39 ⟨by decide, by omega, by omega⟩, wa.ar 39 ⟨by decide, by omega, by omega⟩, g1.ar 39 ⟨by decide, by omega, by omega⟩, w1.ar 39 ⟨by decide, by omega, by omega⟩]
    have b39 : sA σb (m + 39) = sA σ (m + 39) := by
      rw [wb.ar 39 ⟨by decide, by omega, by omega⟩, wa.ar 39 ⟨by decide, by omega, by omega⟩, g1.ar 39 ⟨by decide, by omega, by omega⟩, w1.ar 39 ⟨by decide, by omega, by omega⟩]
    have r40 : sA σ7 (m + 40) = sA σ6 (m + 40) := by
      rw [u1.ar 40 ⟨by decide, by omega, by omega⟩, wb.ar 40 ⟨by decide, by omega, by omega⟩, wa.ar 40 ⟨by decide, by omega, by omega⟩]
    have p40 : sA σ1 (m + 40) = sA σ (m + 40) := w1.ar 40 ⟨by decide, by omega, by omega⟩
    refine ⟨?_, ⟨b72.keep u1 (by decide), ?_⟩, ?_, ?_, ?_⟩
    · rw [b39] at u2
      refine u2.tr (hU U'.length q ?_)
      rw [List.getElem?_append_right (Nat.le_refl _), Nat.sub_self]
      rfl
    · rw [List.length_append, List.length_singleton]
      exact b73.keep u1 (by decide)
    · rw [List.length_append, List.length_singleton]; omega
    · intro k y hy
      rw [r39]
      refine hU k y ?_
      rw [List.getElem?_append_left (List.getElem?_eq_some_iff.mp hy).1]
      exact hy
    · intro k y hy
      rw [r40]
      by_cases e : k < D.length
      · rw [List.getElem?_append_left e] at hy
        refine (snpR_w (fun i i1 i2 => ?_)).tr (hD k y hy)
        rw [g2 i (by omega), p40]
      · have e2 : k = D.length := by
          have := (List.getElem?_eq_some_iff.mp hy).1
          rw [List.length_append, List.length_singleton] at this
          omega
        subst e2
        rw [List.getElem?_append_right (Nat.le_refl _), Nat.sub_self] at hy
        have hy : c = y := Option.some.inj hy
        rw [← hy]
        rw [c1] at g3
        exact g3.tr hc
  · exact (w1.mo ⟨by decide, by decide⟩ (fun _ q => q)).tr ((g1.mo ⟨by decide, by decide⟩ (fun _ q => q)).tr ((wa.mo ⟨by decide, by decide⟩ (fun _ q => q)).tr ((wb.mo ⟨by decide, by decide⟩ (fun _ q => q)).tr (u1.mo ⟨by decide, by decide⟩ (fun _ q => q)))))
theorem rf_redo {m : Nat} {c : Rd} {U D : List Rd} {σ : St} (hm : MS σ m) (h : RHi σ m c D U) : Hx (fX12_redo σ m) (fun σ' v => (U = [] ∧ v = iz (-1) ∧ rfM m [0] [] nV σ σ') ∨ ∃ U' q, U = U' ++ [q] ∧ v = nI U'.length ∧ RHi σ' m q (D ++ [c]) U' ∧ rfM m [0, 40, 41, 72, 73] [18, 19, 20, 36, 37, 39] nV σ σ') := by
  obtain ⟨hc, ⟨h73, h72⟩, hl, hD, hU⟩ := h
  obtain ⟨σ1, e1⟩ : ∃ s, s = wI σ (fid 16 0) m (nI 0) := ⟨_, rfl⟩
  have w1 : rfM m [0] [] nV σ σ1 := by rw [e1]; exact rfM.wI (by simp)
  have hm1 := w1.ms hm
  have f72 := h72.keep w1 (by decide)
  have f73 := h73.keep w1 (by decide)
  have c1 : curR σ1 m = curR σ m := curR_k w1 (by decide) (by decide)
  rw [n_fX12_redo, rf_pI hm, ← e1]
  refine hx_bs ?_
  rw [fi_g hm1 f72]
  refine hx_bs (Hx.ce (sm_eq (by omega) (by omega)) (fun d => ?_) (fun d => ?_))
  · exact Hx.ret (Or.inl ⟨List.length_eq_zero_iff.mp d, rfl, w1⟩)
  rcases snoc_or U with rfl | ⟨U', q, rfl⟩
  · exact absurd rfl d
  rw [List.length_append, List.length_singleton] at hl f72
  rw [rf_undos hm1]
  refine hx_bs ?_
  rw [fi_g hm1 f73]
  refine hx_bs ?_
  rw [rf_ck hm1]
  refine hx_bs ?_
  rw [sm_mul]
  refine Hx.bd (rf_writesState (o := 252 * D.length) Sar_undos (by omega) hm1) (fun σ6 _ g => ?_)
  obtain ⟨g1, g2, g3⟩ := g
  have hm6 := g1.ms hm1
  have k73 := f73.keep g1 (by decide)
  have k72 := f72.keep g1 (by decide)
  rw [fi_g hm6 k73]
  refine hx_bs ?_
  obtain ⟨σa, ea⟩ : ∃ s, s = wI σ6 (fid 16 72) m (nI (D.length + 1)) := ⟨_, rfl⟩
  have wa : rfM m [72, 73] [] nV σ6 σa := by rw [ea]; exact rfM.wI (by simp)
  have hma := wa.ms hm6
  have a72 : Fi σa m 73 (nI (U'.length + 1)) := by rw [ea]; exact fi_wn k72 (by decide)
  have a73 : Fi σa m 72 (nI (D.length + 1)) := by rw [ea]; exact fi_wI
  rw [sm_add, rf_pI hm6, ← ea]
  refine hx_bs ?_
  rw [fi_g hma a72]
  refine hx_bs ?_
  obtain ⟨σb, eb⟩ : ∃ s, s = wI σa (fid 16 73) m (nI U'.length) := ⟨_, rfl⟩
  have wb : rfM m [72, 73] [] nV σa σb := by rw [eb]; exact rfM.wI (by simp)
  have hmb := wb.ms hma
  have b72 : Fi σb m 73 (nI U'.length) := by rw [eb]; exact fi_wI
  have b73 : Fi σb m 72 (nI (D.length + 1)) := by rw [eb]; exact fi_wn a73 (by decide)
  rw [sm_sub (by omega), Nat.add_sub_cancel, rf_pI hma, ← eb]
  refine hx_bs ?_
  rw [rf_redos hmb]
  refine hx_bs ?_
  rw [fi_g hmb b72]
  refine hx_bs ?_
  rw [rf_ck hmb]
  refine hx_bs ?_
  rw [sm_mul]
  refine Hx.bd (rf_readsState (o := 252 * U'.length) Sar_redos (by omega) hmb) (fun σ7 _ u => ?_)
  obtain ⟨u1, u2⟩ := u
  have hm7 := u1.ms hmb
  rw [fi_g hm7 (b72.keep u1 (by decide))]
  refine hx_bs (Hx.ret (Or.inr ⟨U', q, rfl, rfl, ?_, ?_⟩))
  · have r39 : sA σ7 (m + 40) = sA σ (m + 40) := by
      rw [u1.ar 40 ⟨by decide, by omega, by omega⟩, wb.ar 40 ⟨by decide, by omega, by omega⟩, wa.ar 40 ⟨by decide, by omega, by omega⟩, g1.ar 40 ⟨by decide, by omega, by omega⟩, w1.ar 40 ⟨by decide, by omega, by omega⟩]
    have b39 : sA σb (m + 40) = sA σ (m + 40) := by
      rw [wb.ar 40 ⟨by decide, by omega, by omega⟩, wa.ar 40 ⟨by decide, by omega, by omega⟩, g1.ar 40 ⟨by decide, by omega, by omega⟩, w1.ar 40 ⟨by decide, by omega, by omega⟩]
    have r40 : sA σ7 (m + 39) = sA σ6 (m + 39) := by
      rw [u1.ar 39 ⟨by decide, by omega, by omega⟩, wb.ar 39 ⟨by decide, by omega, by omega⟩, wa.ar 39 ⟨by decide, by omega, by omega⟩]
    have p40 : sA σ1 (m + 39) = sA σ (m + 39) := w1.ar 39 ⟨by decide, by omega, by omega⟩
    refine ⟨?_, ⟨?_, b72.keep u1 (by decide)⟩, ?_, ?_, ?_⟩
    · rw [b39] at u2
      refine u2.tr (hU U'.length q ?_)
      rw [List.getElem?_append_right (Nat.le_refl _), Nat.sub_self]
      rfl
    · rw [List.length_append, List.length_singleton]
      exact b73.keep u1 (by decide)
    · rw [List.length_append, List.length_singleton]; omega
    · intro k y hy
      rw [r40]
      by_cases e : k < D.length
      · rw [List.getElem?_append_left e] at hy
        refine (snpR_w (fun i i1 i2 => ?_)).tr (hD k y hy)
        rw [g2 i (by omega), p40]
      · have e2 : k = D.length := by
          have := (List.getElem?_eq_some_iff.mp hy).1
          rw [List.length_append, List.length_singleton] at this
          omega
        subst e2
        rw [List.getElem?_append_right (Nat.le_refl _), Nat.sub_self] at hy
        have hy : c = y := Option.some.inj hy
        rw [← hy]
        rw [c1] at g3
        exact g3.tr hc
    · intro k y hy
      rw [r39]
      refine hU k y ?_
      rw [List.getElem?_append_left (List.getElem?_eq_some_iff.mp hy).1]
      exact hy
  · exact (w1.mo ⟨by decide, by decide⟩ (fun _ q => q)).tr ((g1.mo ⟨by decide, by decide⟩ (fun _ q => q)).tr ((wa.mo ⟨by decide, by decide⟩ (fun _ q => q)).tr ((wb.mo ⟨by decide, by decide⟩ (fun _ q => q)).tr (u1.mo ⟨by decide, by decide⟩ (fun _ q => q)))))
