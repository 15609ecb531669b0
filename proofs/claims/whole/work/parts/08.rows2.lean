/-! ===== rows of fields ===== -/
theorem cl_lt {ci : Nat} {r : vw_C} (h : vwCl[ci]? = some r) : ci < 17 := (List.getElem?_eq_some_iff.mp h).1
theorem gI_el {σ : St} {ci k a : Nat} {v : Int32} (h : gI σ ci k a = some v) : sK σ a = ci + 1 ∧ sI σ (fid ci k) a = v := by
  unfold gI at h
  split at h
  · exact ⟨by assumption, Option.some.inj h⟩
  · cases h
theorem gF_el {σ : St} {ci k a : Nat} {v : Nat} (h : gF σ ci k a = some v) : sK σ a = ci + 1 ∧ sF σ (fid ci k) a = v := by
  unfold gF at h
  split at h
  · exact ⟨by assumption, Option.some.inj h⟩
  · cases h
theorem pI_el {σ σ1 : St} {ci k a : Nat} {v : Int32} (h : pI σ ci k a v = some σ1) : sK σ a = ci + 1 ∧ wI σ (fid ci k) a v = σ1 := by
  unfold pI at h
  split at h
  · exact ⟨by assumption, Option.some.inj h⟩
  · cases h
theorem pF_el {σ σ1 : St} {ci k a : Nat} {v : Nat} (h : pF σ ci k a v = some σ1) : sK σ a = ci + 1 ∧ wF σ (fid ci k) a v = σ1 := by
  unfold pF at h
  split at h
  · exact ⟨by assumption, Option.some.inj h⟩
  · cases h
theorem Wd.ne0 {D : Dt} {s : State} {H : Heap} {σ : St} {a : Nat} (hW : Wd D s H σ) (h : sK σ a ≠ 0) : a ≠ 0 := fun q => h (by rw [q]; exact hW.2.1.1)
section RW
variable {M : Mt} {X : Xt} {σ : St} {pc : Nat} {L : List (Nat × Value)} {st : List Value}
theorem g_get0 {ci k a idx : Nat} {v : Value} {C : String} {T : u_T} {N : Nat} (hκ : sK σ a = ci + 1) (hc : vwCl[ci]? = some (C, T, N)) (hk : k < N) (hin : ∀ w ∈ u_ws C T N, w ∈ TB) (hl : Cond.fieldLink M.2.2.1 idx (T k).1 (T k).2.1 (T k).2.2.1 ∈ TB)
    (hd : decode M.1 pc = .ok (.getfield idx, 3)) (hv : fval σ ci a k = v) (kk : G M X σ (pc + 3) L (v :: st)) : G M X σ pc L (rv a :: st) := by
  refine ⟨kk.1, fun p e R s m args below meth c Q D hC H locs k9 n ls a1 a2 a3 a4 a5 a6 => ?_⟩
  have hg := kk.2 p e R s m args below meth c Q D hC H locs k9 n ls a1 a2 a3 a4 a5 a6
  have ha0 : a ≠ 0 := a1.ne0 (by rw [hκ]; omega)
  rw [rv_pos ha0]
  obtain ⟨cell, q1, q2, q3, q4⟩ := (a1.2.2.2.1 a).1 ci _ hκ hc
  obtain ⟨hS, hfc, kC, hkC, hkind⟩ := a1.2.2.1.1 ci _ hc
  obtain ⟨cf, kf, fi, f, hi, hsl⟩ := hS k hk
  obtain ⟨hx, hb, hml, hown, hts, -⟩ := hC
  refine W.getf hx hb hown (hts _ hl) hi (u_facts hfc hkC (u_lays hts hin hk) hi).1 q1 (by rw [q3]; exact fun h => by cases h) (v := v) ?_ rfl rfl hd hg
  rw [hsl, q4 k hk, hv]
theorem g_get0N {ci k a idx : Nat} {v : Value} {C host : String} {T : u_T} {N : Nat} (hκ : sK σ a = ci + 1) (hc : vwCl[ci]? = some (C, T, N)) (hk : k < N) (hin : ∀ w ∈ u_ws C T N, w ∈ TB) (hl : Cond.fieldLinkNest M.2.2.1 idx (T k).1 (T k).2.1 (T k).2.2.1 host ∈ TN)
    (hd : decode M.1 pc = .ok (.getfield idx, 3)) (hv : fval σ ci a k = v) (kk : G M X σ (pc + 3) L (v :: st)) : G M X σ pc L (rv a :: st) := by
  refine ⟨kk.1, fun p e R s m args below meth c Q D hC H locs k9 n ls a1 a2 a3 a4 a5 a6 => ?_⟩
  have hg := kk.2 p e R s m args below meth c Q D hC H locs k9 n ls a1 a2 a3 a4 a5 a6
  have ha0 : a ≠ 0 := a1.ne0 (by rw [hκ]; omega)
  rw [rv_pos ha0]
  obtain ⟨cell, q1, q2, q3, q4⟩ := (a1.2.2.2.1 a).1 ci _ hκ hc
  obtain ⟨hS, hfc, kC, hkC, hkind⟩ := a1.2.2.1.1 ci _ hc
  obtain ⟨cf, kf, fi, f, hi, hsl⟩ := hS k hk
  obtain ⟨hx, hb, hml, hown, hts, hNW, -⟩ := hC
  refine va_Wgetf hx hb hown (va_Nw.use rfl (hNW _ hl)) hi (u_facts hfc hkC (u_lays hts hin hk) hi).1 q1 (by rw [q3]; exact fun h => by cases h) (v := v) ?_ rfl rfl hd hg
  rw [hsl, q4 k hk, hv]
theorem fvI {ci a k : Nat} {v : Int32} (hr : isR (clT ci k) = false) (h : sI σ (fid ci k) a = v) : fval σ ci a k = .int v := by simp [fval, hr, h]
theorem fvF {ci a k : Nat} {v : Nat} (hr : isR (clT ci k) = true) (h : sF σ (fid ci k) a = v) : fval σ ci a k = rv v := by simp [fval, hr, h]
theorem g_getI {ci k a idx : Nat} {v : Int32} {C : String} {T : u_T} {N : Nat} (hd : decode M.1 pc = .ok (.getfield idx, 3)) (e : gI σ ci k a = some v) (hl : Cond.fieldLink M.2.2.1 idx (T k).1 (T k).2.1 (T k).2.2.1 ∈ TB) (hin : ∀ w ∈ u_ws C T N, w ∈ TB) (hc : vwCl[ci]? = some (C, T, N)) (hk : k < N) (hr : isR (clT ci k) = false)
    (kk : G M X σ (pc + 3) L (.int v :: st)) : G M X σ pc L (rv a :: st) := g_get0 (gI_el e).1 hc hk hin hl hd (fvI hr (gI_el e).2) kk
theorem g_getF {ci k a idx : Nat} {v : Nat} {C : String} {T : u_T} {N : Nat} (hd : decode M.1 pc = .ok (.getfield idx, 3)) (e : gF σ ci k a = some v) (hl : Cond.fieldLink M.2.2.1 idx (T k).1 (T k).2.1 (T k).2.2.1 ∈ TB) (hin : ∀ w ∈ u_ws C T N, w ∈ TB) (hc : vwCl[ci]? = some (C, T, N)) (hk : k < N) (hr : isR (clT ci k) = true)
    (kk : G M X σ (pc + 3) L (rv v :: st)) : G M X σ pc L (rv a :: st) := g_get0 (gF_el e).1 hc hk hin hl hd (fvF hr (gF_el e).2) kk
theorem g_getIN {ci k a idx : Nat} {v : Int32} {C host : String} {T : u_T} {N : Nat} (hd : decode M.1 pc = .ok (.getfield idx, 3)) (e : gI σ ci k a = some v) (hl : Cond.fieldLinkNest M.2.2.1 idx (T k).1 (T k).2.1 (T k).2.2.1 host ∈ TN) (hin : ∀ w ∈ u_ws C T N, w ∈ TB) (hc : vwCl[ci]? = some (C, T, N)) (hk : k < N) (hr : isR (clT ci k) = false)
    (kk : G M X σ (pc + 3) L (.int v :: st)) : G M X σ pc L (rv a :: st) := g_get0N (gI_el e).1 hc hk hin hl hd (fvI hr (gI_el e).2) kk
theorem g_getFN {ci k a idx : Nat} {v : Nat} {C host : String} {T : u_T} {N : Nat} (hd : decode M.1 pc = .ok (.getfield idx, 3)) (e : gF σ ci k a = some v) (hl : Cond.fieldLinkNest M.2.2.1 idx (T k).1 (T k).2.1 (T k).2.2.1 host ∈ TN) (hin : ∀ w ∈ u_ws C T N, w ∈ TB) (hc : vwCl[ci]? = some (C, T, N)) (hk : k < N) (hr : isR (clT ci k) = true)
    (kk : G M X σ (pc + 3) L (rv v :: st)) : G M X σ pc L (rv a :: st) := g_get0N (gF_el e).1 hc hk hin hl hd (fvF hr (gF_el e).2) kk
/-- one store, all that behind it is asked -/
theorem apart9 {s : State} {args : Array Value} {D : va_G} {tys : List (ClassId × FieldType)} {ci : Nat} {C : String} {T : u_T} {N : Nat} (hts : ∀ w ∈ TB, w.before args s = true) (hin : ∀ w ∈ u_ws C T N, w ∈ TB) (hty : ∀ k, k < N → parseFieldDescriptor (T k).2.2.1 = some (clT ci k)) (hnm : ∀ a, a < N → ∀ b, b < N → a ≠ b → (T a).2.1 ≠ (T b).2.1) (hK : va_K D vwCl tys s) (hc : vwCl[ci]? = some (C, T, N)) :
    ∀ x y, x < N → y < N → x ≠ y → (D.2 ci) x ≠ (D.2 ci) y := va_apart (own := C) hts hin (clT ci) hty hnm hK hc
theorem g_put0 {σ1 : St} {ci k a idx : Nat} {v : Value} {C : String} {T : u_T} {N : Nat} (hκ : sK σ a = ci + 1) (hc : vwCl[ci]? = some (C, T, N)) (hk : k < N) (hin : ∀ w ∈ u_ws C T N, w ∈ TB) (hty : ∀ k, k < N → parseFieldDescriptor (T k).2.2.1 = some (clT ci k)) (hnm : ∀ a, a < N → ∀ b, b < N → a ≠ b → (T a).2.1 ≠ (T b).2.1)
    (hl : Cond.fieldLink M.2.2.1 idx (T k).1 (T k).2.1 (T k).2.2.1 ∈ TB ∨ ∃ host, Cond.fieldLinkNest M.2.2.1 idx (T k).1 (T k).2.1 (T k).2.2.1 host ∈ TN) (hfin : (T k).2.2.2 = false ∨ (M.2.2.2.2.2.2 = true ∧ (T k).1 = M.2.2.1 ∧ Cond.fieldLink M.2.2.1 idx (T k).1 (T k).2.1 (T k).2.2.1 ∈ TB))
    (hd : decode M.1 pc = .ok (.putfield idx, 3)) (hn : narrow (clT ci k) v = v) (hfit : fits (clT ci k) v = true)
    (gK : sK σ1 = sK σ) (gI : ∀ f b, b ≠ a → sI σ1 f b = sI σ f b) (gF : ∀ f b, b ≠ a → sF σ1 f b = sF σ f b) (gN : sN σ1 = sN σ) (gA : sA σ1 = sA σ) (gJ : sJ σ1 = sJ σ) (gQ : sQ σ1 = sQ σ) (gz : sz σ1 = sz σ) (gc : sc σ1 = sc σ) (gw : sw σ1 = sw σ) (gV : ∀ j, fval σ1 ci a j = updV (fval σ ci a) k v j)
    (kk : G M X σ1 (pc + 3) L st) : G M X σ pc L (v :: rv a :: st) := by
  refine ⟨by rw [← gc, ← gw]; exact kk.1, fun p e R s m args below meth c Q D hC H locs k9 n ls a1 a2 a3 a4 a5 a6 => ?_⟩
  have hg := fun H1 l1 b1 b2 => kk.2 p e R s m args below meth c Q D hC H1 l1 k9 n ls b1 b2 (Fr_same gK gz a3) (by rw [gc]; exact a4) (by rw [gw]; exact a5) a6
  have ha0 : a ≠ 0 := a1.ne0 (by rw [hκ]; omega)
  rw [rv_pos ha0]
  obtain ⟨cell, q1, q2, q3, q4⟩ := (a1.2.2.2.1 a).1 ci _ hκ hc
  obtain ⟨hx, hb, hml, hown, hts, hNW, hlk, hrt, hRR, hini, hQ, hXX⟩ := hC
  have hap := apart9 hts hin hty hnm a1.2.2.1 hc
  obtain ⟨hS, hfc, kC, hkC, hkind⟩ := a1.2.2.1.1 ci _ hc
  obtain ⟨cf, kf, fi, f, hi, hsl⟩ := hS k hk
  have hst := (u_facts hfc hkC (u_lays hts hin hk) hi).1
  have hlay := hts _ (hin _ (u_in_lay hk))
  unfold u_lay at hlay
  have hfa : Fr X.2.1 (a - 1) := a3 _ (Or.inl ⟨by rw [show a - 1 + 1 = a by omega, hκ]; omega, by rw [show a - 1 + 1 = a by omega, hκ]; have := cl_lt hc; omega⟩)
  have hlt : f.slot < cell.slots.size := by rw [hsl]; exact k2_hasslot (q4 k hk)
  have fin : ∀ H' : Heap, H'[a - 1]? = some (cell.setSlot f.slot v) → H'.size = H.size → (∀ q, q ≠ a - 1 → H'[q]? = H[q]?) → W p X.1 e R s m args below meth c H' (locs ++ [⟨a - 1, f.slot⟩]) k9 n Q (F0 m (pc + 3) ls st) := by
    intro H' e1 e2 e3
    rw [hsl] at e1
    exact hg H' _ (a1.putO hκ hc hk hap q2 q3 q4 e1 e2 e3 gK gI gF gN gA gJ gQ gz gV) (a2.put e2 e3 hfa)
  by_cases hf9 : (T k).2.2.2 = true
  · rw [if_pos hf9] at hlay
    rcases hfin with h9 | ⟨h8, h9, h10⟩
    · rw [hf9] at h9; cases h9
    · have hcf : m.cls = cf := by
        obtain ⟨_, _, c', _, _, _, -, -, hf', -, -, -, hown2, -⟩ := Cond.laysFinal_spec hlay
        have e1 : c' = cf := by have := hi.symm.trans hf'; simp at this; exact this.1.symm
        rw [h9] at hown2
        rw [← e1]; exact Option.some.inj (hown.symm.trans hown2)
      have h6 := u_fits hfc hkC hkind (Or.inr hlay) hi (hty k hk) hn hfit
      exact W.putFinK hx hb hown (hts _ h10) hi hst hcf (hini h8) (by rw [q2]; exact h6) q1 q3 hlt rfl rfl hd fin
  · rw [if_neg hf9] at hlay
    have h6 := u_store hfc hkC hkind hlay hi (hty k hk) hn hfit
    rcases hl with hl | ⟨host, hl⟩
    · exact W.putK hx hb (f := f) ⟨hown, hts _ hl, ⟨_, _, _, hi⟩, hst⟩ (by rw [q2]; exact h6) q1 q3 hlt rfl rfl hd fin
    · exact va_WputK hx hb hown (va_Nw.use rfl (hNW _ hl)) hi hst (by rw [q2]; exact h6) q1 q3 hlt rfl rfl hd fin
theorem g_putI {σ1 : St} {ci k a idx : Nat} {v : Int32} {C : String} {T : u_T} {N : Nat} (hd : decode M.1 pc = .ok (.putfield idx, 3)) (e : pI σ ci k a v = some σ1) (hl : Cond.fieldLink M.2.2.1 idx (T k).1 (T k).2.1 (T k).2.2.1 ∈ TB ∨ ∃ host, Cond.fieldLinkNest M.2.2.1 idx (T k).1 (T k).2.1 (T k).2.2.1 host ∈ TN) (hin : ∀ w ∈ u_ws C T N, w ∈ TB) (hc : vwCl[ci]? = some (C, T, N)) (hk : k < N)
    (hty : ∀ k, k < N → parseFieldDescriptor (T k).2.2.1 = some (clT ci k)) (hnm : ∀ a, a < N → ∀ b, b < N → a ≠ b → (T a).2.1 ≠ (T b).2.1) (hfin : (T k).2.2.2 = false ∨ (M.2.2.2.2.2.2 = true ∧ (T k).1 = M.2.2.1 ∧ Cond.fieldLink M.2.2.1 idx (T k).1 (T k).2.1 (T k).2.2.1 ∈ TB))
    (hr : isR (clT ci k) = false) (hn : narrow (clT ci k) (.int v) = .int v) (hfit : fits (clT ci k) (.int v) = true) (kk : G M X σ1 (pc + 3) L st) : G M X σ pc L (.int v :: rv a :: st) := by
  obtain ⟨e1, rfl⟩ := pI_el e
  exact g_put0 (σ1 := wI σ (fid ci k) a v) e1 hc hk hin hty hnm hl hfin hd hn hfit rfl (fun f b hb => up2_ne (fun q => hb q.2)) (fun _ _ _ => rfl) rfl rfl rfl rfl rfl rfl rfl (fval_wI hr) kk
theorem g_putF {σ1 : St} {ci k a idx : Nat} {v : Nat} {C : String} {T : u_T} {N : Nat} (hd : decode M.1 pc = .ok (.putfield idx, 3)) (e : pF σ ci k a v = some σ1) (hl : Cond.fieldLink M.2.2.1 idx (T k).1 (T k).2.1 (T k).2.2.1 ∈ TB ∨ ∃ host, Cond.fieldLinkNest M.2.2.1 idx (T k).1 (T k).2.1 (T k).2.2.1 host ∈ TN) (hin : ∀ w ∈ u_ws C T N, w ∈ TB) (hc : vwCl[ci]? = some (C, T, N)) (hk : k < N)
    (hty : ∀ k, k < N → parseFieldDescriptor (T k).2.2.1 = some (clT ci k)) (hnm : ∀ a, a < N → ∀ b, b < N → a ≠ b → (T a).2.1 ≠ (T b).2.1) (hfin : (T k).2.2.2 = false ∨ (M.2.2.2.2.2.2 = true ∧ (T k).1 = M.2.2.1 ∧ Cond.fieldLink M.2.2.1 idx (T k).1 (T k).2.1 (T k).2.2.1 ∈ TB))
    (hr : isR (clT ci k) = true) (kk : G M X σ1 (pc + 3) L st) : G M X σ pc L (rv v :: rv a :: st) := by
  obtain ⟨e1, rfl⟩ := pF_el e
  have hn : narrow (clT ci k) (rv v) = rv v ∧ fits (clT ci k) (rv v) = true := by
    unfold rv
    cases h : clT ci k <;> rw [h] at hr <;> first | (split <;> exact ⟨rfl, rfl⟩) | cases hr
  exact g_put0 (σ1 := wF σ (fid ci k) a v) e1 hc hk hin hty hnm hl hfin hd hn.1 hn.2 rfl (fun _ _ _ => rfl) (fun f b hb => up2_ne (fun q => hb q.2)) rfl rfl rfl rfl rfl rfl rfl (fval_wF hr) kk
end RW
