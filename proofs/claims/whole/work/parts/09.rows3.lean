/-! ===== rows of arrays ===== -/
theorem inb_el {j : Int32} {n : Nat} (h : inb j n = true) : ¬ (j < 0 ∨ n ≤ j.toNatClampNeg) := of_decide_eq_true h
theorem inb_lt {j : Int32} {n : Nat} (h : inb j n = true) : j.toNatClampNeg < n := Nat.not_le.mp fun q => inb_el h (Or.inr q)
theorem cyT_arr {D : Dt} {s : State} {ti : Nat} (h : ti < 9) (hK : va_K D.1 vwCl (cyT D) s) : ArrOfT s (D.2 ti) (arT ti) ∧ va_RA s (D.2 ti) (arT ti) := hK.2 ti (D.2 ti, arT ti) (cyT_at h)
section RA
variable {M : Mt} {X : Xt} {σ : St} {pc : Nat} {L : List (Nat × Value)} {st : List Value}
theorem g_iald {a : Nat} {j v : Int32} (hd : decode M.1 pc = .ok (.iaload, 1)) (e : ldI σ a j = some v) (kk : G M X σ (pc + 1) L (.int v :: st)) : G M X σ pc L (.int j :: rv a :: st) := by
  unfold ldI at e
  split at e
  case isFalse => cases e
  case isTrue h =>
    cases e
    obtain ⟨hκ, hj⟩ := h
    refine ⟨kk.1, fun p e R s m args below meth c Q D hC H locs k9 n ls a1 a2 a3 a4 a5 a6 => ?_⟩
    have hg := kk.2 p e R s m args below meth c Q D hC H locs k9 n ls a1 a2 a3 a4 a5 a6
    have ha0 : a ≠ 0 := a1.ne0 (by omega)
    rw [rv_pos ha0]
    rcases hκ with hκ | hκ
    · have hA := (cyT_arr (ti := 0) (by decide) a1.2.2.1).1 (sN σ a) (aval σ 0 a)
      exact W.iald hC.1 hC.2.1 ((a1.2.2.2.1 a).2.1 0 hκ (by decide)) hA (fun q => by cases q) (by show ¬ (j < 0 ∨ (arrV _ _ _).slots.size ≤ _); rw [arrV_size]; exact inb_el hj) (by show (arrV _ _ _).slots[_]? = _; rw [arrV_read _ _ (inb_lt hj)]; rfl) rfl rfl hd hg
    · obtain ⟨cell, q1, q2, q3, q4, q5⟩ := (a1.2.2.2.1 a).2.2 hκ
      have hlt := inb_lt hj
      exact W.iald hC.1 hC.2.1 q1 q2 q3 (fun q => by rcases q with q | q; exact inb_el hj (Or.inl q); omega) (q5 _ hlt) rfl rfl hd hg
theorem aval_wA {a i : Nat} {v : Int32} {ti : Nat} (ht : ti < 3) (j : Nat) : aval (wA σ a i v) ti a j = updV (aval σ ti a) i (.int v) j := by
  by_cases h : j = i
  · subst h
    simp [aval, ht, updV, wA, sA, up2]
  · simp [aval, ht, updV, wA, sA, up2, h]
theorem aval_wJ {a i : Nat} {v : Int64} (j : Nat) : aval (wJ σ a i v) 3 a j = updV (aval σ 3 a) i (.long v) j := by
  by_cases h : j = i
  · subst h
    simp [aval, updV, wJ, sJ, up2]
  · simp [aval, updV, wJ, sJ, up2, h]
theorem aval_wQ {a i : Nat} {v : Nat} {ti : Nat} (ht : 3 < ti) (j : Nat) : aval (wQ σ a i v) ti a j = updV (aval σ ti a) i (rv v) j := by
  have h1 : ¬ ti < 3 := by omega
  have h2 : ¬ ti = 3 := by omega
  by_cases h : j = i
  · subst h
    simp [aval, h1, h2, updV, wQ, sQ, up2]
  · simp [aval, h1, h2, updV, wQ, sQ, up2, h]
theorem arrV_upd {cA : ClassId} {n : Nat} {f g : Nat → Value} {i : Nat} {v : Value} (h : ∀ j, g j = updV f i v j) : (arrV cA n f).setSlot i v = arrV cA n g := by
  rw [arrV_store]
  congr 1
  funext j
  exact (h j).symm
theorem Fr_arr {a ti : Nat} (ha : a ≠ 0) (hκ : sK σ a = 100 + ti) (h : ti < 9) : Fr σ (a - 1) := Or.inl ⟨by rw [show a - 1 + 1 = a by omega]; omega, by rw [show a - 1 + 1 = a by omega]; omega⟩
theorem g_iast {σ1 : St} {a : Nat} {j v : Int32} (hd : decode M.1 pc = .ok (.iastore, 1)) (e : stI σ a j v = some σ1) (kk : G M X σ1 (pc + 1) L st) : G M X σ pc L (.int v :: .int j :: rv a :: st) := by
  unfold stI at e
  split at e
  case isFalse => cases e
  case isTrue h =>
    cases e
    obtain ⟨hκ, hj⟩ := h
    refine ⟨kk.1, fun p e R s m args below meth c Q D hC H locs k9 n ls a1 a2 a3 a4 a5 a6 => ?_⟩
    have ha0 : a ≠ 0 := a1.ne0 (by omega)
    rw [rv_pos ha0]
    have hA := (cyT_arr (ti := 0) (by decide) a1.2.2.1).1 (sN σ a) (aval σ 0 a)
    refine W.iast hC.1 hC.2.1 ((a1.2.2.2.1 a).2.1 0 hκ (by decide)) hA (fun q => by cases q) (by show ¬ (j < 0 ∨ (arrV _ _ _).slots.size ≤ _); rw [arrV_size]; exact inb_el hj) rfl rfl hd fun H1 e1 e2 e3 => ?_
    rw [arrV_upd (fun q => aval_wA (σ := σ) (a := a) (v := v) (ti := 0) (by decide) q)] at e1
    exact kk.2 p e R s m args below meth c Q D hC H1 _ k9 n ls (a1.putA (ti := 0) (σ1 := wA σ a j.toNatClampNeg v) hκ (by decide) e1 e2 e3 rfl rfl rfl rfl (fun b i hb => up2_ne (fun q => hb q.1)) (fun _ _ _ => rfl) (fun _ _ _ => rfl) rfl) (a2.put e2 e3 (a3 _ (Fr_arr (ti := 0) ha0 hκ (by decide)))) a3 a4 a5 a6
theorem g_bald {a : Nat} {j v : Int32} (hd : decode M.1 pc = .ok (.baload, 1)) (e : ldB σ 1 a j = some v) (kk : G M X σ (pc + 1) L (.int v :: st)) : G M X σ pc L (.int j :: rv a :: st) := by
  unfold ldB at e
  split at e
  case isFalse => cases e
  case isTrue h =>
    cases e
    obtain ⟨hκ, hj⟩ := h
    refine ⟨kk.1, fun p e R s m args below meth c Q D hC H locs k9 n ls a1 a2 a3 a4 a5 a6 => ?_⟩
    have hg := kk.2 p e R s m args below meth c Q D hC H locs k9 n ls a1 a2 a3 a4 a5 a6
    have ha0 : a ≠ 0 := a1.ne0 (by omega)
    rw [rv_pos ha0]
    have hA := (cyT_arr (ti := 1) (by decide) a1.2.2.1).1 (sN σ a) (aval σ 1 a)
    exact W.bald hC.1 hC.2.1 ((a1.2.2.2.1 a).2.1 1 hκ (by decide)) hA (fun q => by cases q) (by show ¬ (j < 0 ∨ (arrV _ _ _).slots.size ≤ _); rw [arrV_size]; exact inb_el hj) (by show (arrV _ _ _).slots[_]? = _; rw [arrV_read _ _ (inb_lt hj)]; rfl) rfl rfl hd hg
theorem g_bast {σ1 : St} {a : Nat} {j v : Int32} (hd : decode M.1 pc = .ok (.bastore, 1)) (e : stB σ 1 a j v = some σ1) (kk : G M X σ1 (pc + 1) L st) : G M X σ pc L (.int v :: .int j :: rv a :: st) := by
  unfold stB at e
  split at e
  case isFalse => cases e
  case isTrue h =>
    cases e
    obtain ⟨hκ, hj, hv⟩ := h
    refine ⟨kk.1, fun p e R s m args below meth c Q D hC H locs k9 n ls a1 a2 a3 a4 a5 a6 => ?_⟩
    have ha0 : a ≠ 0 := a1.ne0 (by omega)
    rw [rv_pos ha0]
    have hA := (cyT_arr (ti := 1) (by decide) a1.2.2.1).1 (sN σ a) (aval σ 1 a)
    refine W.bast hC.1 hC.2.1 ((a1.2.2.2.1 a).2.1 1 hκ (by decide)) hA (fun q => by cases q) (by show ¬ (j < 0 ∨ (arrV _ _ _).slots.size ≤ _); rw [arrV_size]; exact inb_el hj) rfl rfl hd fun H1 e1 e2 e3 => ?_
    rw [show narrow FieldType.byte (.int v) = .int v from (congrArg Value.int hv)] at e1
    rw [arrV_upd (fun q => aval_wA (σ := σ) (a := a) (v := v) (ti := 1) (by decide) q)] at e1
    exact kk.2 p e R s m args below meth c Q D hC H1 _ k9 n ls (a1.putA (ti := 1) (σ1 := wA σ a j.toNatClampNeg v) hκ (by decide) e1 e2 e3 rfl rfl rfl rfl (fun b i hb => up2_ne (fun q => hb q.1)) (fun _ _ _ => rfl) (fun _ _ _ => rfl) rfl) (a2.put e2 e3 (a3 _ (Fr_arr (ti := 1) ha0 hκ (by decide)))) a3 a4 a5 a6
theorem g_aald {a : Nat} {j : Int32} {v ti : Nat} {C : String} (hd : decode M.1 pc = .ok (.aaload, 1)) (ht : 3 < ti ∧ ti < 9) (hC9 : arT ti = .object C) (e : ldQ σ ti a j = some v) (kk : G M X σ (pc + 1) L (rv v :: st)) : G M X σ pc L (.int j :: rv a :: st) := by
  unfold ldQ at e
  split at e
  case isFalse => cases e
  case isTrue h =>
    cases e
    obtain ⟨hκ, hj⟩ := h
    refine ⟨kk.1, fun p e R s m args below meth c Q D hC H locs k9 n ls a1 a2 a3 a4 a5 a6 => ?_⟩
    have hg := kk.2 p e R s m args below meth c Q D hC H locs k9 n ls a1 a2 a3 a4 a5 a6
    have ha0 : a ≠ 0 := a1.ne0 (by omega)
    rw [rv_pos ha0]
    have hA := (cyT_arr (ti := ti) ht.2 a1.2.2.1).1 (sN σ a) (aval σ ti a)
    rw [hC9] at hA
    have h1 : ¬ ti < 3 := by omega
    have h2 : ¬ ti = 3 := by omega
    exact W.aald (ty := .object C) hC.1 hC.2.1 ((a1.2.2.2.1 a).2.1 ti hκ ht.2) hA rfl (fun q => by cases q) (by show ¬ (j < 0 ∨ (arrV _ _ _).slots.size ≤ _); rw [arrV_size]; exact inb_el hj) (by show (arrV _ _ _).slots[_]? = _; rw [arrV_read _ _ (inb_lt hj)]; simp only [aval, if_neg h1, if_neg h2]) rfl rfl hd hg
theorem g_alen {a : Nat} {v : Int32} (hd : decode M.1 pc = .ok (.arraylength, 1)) (e : aln σ a = some v) (kk : G M X σ (pc + 1) L (.int v :: st)) : G M X σ pc L (rv a :: st) := by
  unfold aln at e
  split at e
  case isFalse => cases e
  case isTrue h =>
    cases e
    refine ⟨kk.1, fun p e R s m args below meth c Q D hC H locs k9 n ls a1 a2 a3 a4 a5 a6 => ?_⟩
    have hg := kk.2 p e R s m args below meth c Q D hC H locs k9 n ls a1 a2 a3 a4 a5 a6
    have hκ0 : sK σ a ≠ 0 := by rcases h with h | h <;> omega
    rw [rv_pos (a1.ne0 hκ0)]
    rcases h with h | h
    · have hA := (cyT_arr (ti := sK σ a - 100) (by omega) a1.2.2.1).1 (sN σ a) (aval σ (sK σ a - 100) a)
      exact W.alen hC.1 hC.2.1 ((a1.2.2.2.1 a).2.1 (sK σ a - 100) (by omega) (by omega)) hA (by rw [arrV_size]; rfl) rfl rfl hd hg
    · obtain ⟨cell, q1, q2, q3, q4, q5⟩ := (a1.2.2.2.1 a).2.2 h
      exact W.alen hC.1 hC.2.1 q1 q2 q4.2 rfl rfl hd hg
theorem g_jst {σ1 : St} {a : Nat} {j : Int32} {v : Int64} (hd : decode M.1 pc = .ok (.lastore, 1)) (e : stJ σ a j v = some σ1) (kk : G M X σ1 (pc + 1) L st) : G M X σ pc L (.long v :: .int j :: rv a :: st) := by
  unfold stJ at e
  split at e
  case isFalse => cases e
  case isTrue h =>
    cases e
    obtain ⟨hκ, hj⟩ := h
    refine ⟨kk.1, fun p e R s m args below meth c Q D hC H locs k9 n ls a1 a2 a3 a4 a5 a6 => ?_⟩
    have ha0 : a ≠ 0 := a1.ne0 (by omega)
    rw [rv_pos ha0]
    have hA := (cyT_arr (ti := 3) (by decide) a1.2.2.1).1 (sN σ a) (aval σ 3 a)
    refine W.last hC.1 hC.2.1 ((a1.2.2.2.1 a).2.1 3 hκ (by decide)) hA (fun q => by cases q) (by show ¬ (j < 0 ∨ (arrV _ _ _).slots.size ≤ _); rw [arrV_size]; exact inb_el hj) rfl rfl hd fun H1 e1 e2 e3 => ?_
    rw [arrV_upd (fun q => aval_wJ (σ := σ) (a := a) (v := v) q)] at e1
    exact kk.2 p e R s m args below meth c Q D hC H1 _ k9 n ls (a1.putA (ti := 3) (σ1 := wJ σ a j.toNatClampNeg v) hκ (by decide) e1 e2 e3 rfl rfl rfl rfl (fun _ _ _ => rfl) (fun b i hb => up2_ne (fun q => hb q.1)) (fun _ _ _ => rfl) rfl) (a2.put e2 e3 (a3 _ (Fr_arr (ti := 3) ha0 hκ (by decide)))) a3 a4 a5 a6
theorem g_aast {σ1 : St} {ti ci a v : Nat} {j : Int32} {C : String} {T : u_T} {N : Nat} (hd : decode M.1 pc = .ok (.aastore, 1)) (ht : 3 < ti ∧ ti < 9) (hC9 : arT ti = .object C) (hc : vwCl[ci]? = some (C, T, N)) (e : stQ σ ti ci a j v = some σ1) (kk : G M X σ1 (pc + 1) L st) : G M X σ pc L (rv v :: .int j :: rv a :: st) := by
  unfold stQ at e
  split at e
  case isFalse => cases e
  case isTrue h =>
    cases e
    obtain ⟨hκ, hj, hv⟩ := h
    refine ⟨kk.1, fun p e R s m args below meth c Q D hC H locs k9 n ls a1 a2 a3 a4 a5 a6 => ?_⟩
    have ha0 : a ≠ 0 := a1.ne0 (by omega)
    rw [rv_pos ha0]
    obtain ⟨hA0, hRA⟩ := cyT_arr (ti := ti) ht.2 a1.2.2.1
    rw [hC9] at hA0 hRA
    have hA := hA0 (sN σ a) (aval σ ti a)
    have fin : ∀ H1 : Heap, H1[a - 1]? = some ((arrV (D.2 ti) (sN σ a) (aval σ ti a)).setSlot j.toNatClampNeg (rv v)) → H1.size = H.size → (∀ q, q ≠ a - 1 → H1[q]? = H[q]?) → W p X.1 e R s m args below meth c H1 (locs ++ [⟨a - 1, j.toNatClampNeg⟩]) k9 n Q (F0 m (pc + 1) ls st) := by
      intro H1 e1 e2 e3
      rw [arrV_upd (fun q => aval_wQ (σ := σ) (a := a) (v := v) ht.1 q)] at e1
      exact kk.2 p e R s m args below meth c Q D hC H1 _ k9 n ls (a1.putA (σ1 := wQ σ a j.toNatClampNeg v) hκ ht.2 e1 e2 e3 rfl rfl rfl rfl (fun _ _ _ => rfl) (fun _ _ _ => rfl) (fun b i hb => up2_ne (fun q => hb q.1)) rfl) (a2.put e2 e3 (a3 _ (Fr_arr ha0 hκ ht.2))) a3 a4 a5 a6
    have hcell := (a1.2.2.2.1 a).2.1 ti hκ ht.2
    by_cases hv0 : v = 0
    · subst hv0
      intro T hT Y
      obtain ⟨X', st'⟩ := va_aastN0 Y hC.1 (by rw [hT]; exact hcell) hA (fun q => by cases q) (by show ¬ (j < 0 ∨ (arrV _ _ _).slots.size ≤ _); rw [arrV_size]; exact inb_el hj) (g := F0 m pc ls (.null :: .int j :: .ref (a - 1) :: st)) rfl (rest := st) rfl (by rw [hC.2.1]; exact hd)
      obtain ⟨t, b1, b2⟩ := fin _ (by show (T.heap.setIfInBounds (a - 1) _)[a - 1]? = _; rw [hT]; have hl := (Array.getElem?_eq_some_iff.mp hcell).1; simp only [Array.getElem?_setIfInBounds_self_of_lt hl]; rfl) (by rw [size_setCell, hT]) (fun q hq => by show (T.heap.setIfInBounds (a - 1) _)[q]? = _; rw [hT]; exact Array.getElem?_setIfInBounds_ne (Ne.symm hq)) _ rfl X'
      exact ⟨t, st' t b1, b2⟩
    · have hv1 : sK σ v = ci + 1 := by rcases hv with h | h; exact absurd h hv0; exact h
      rw [rv_pos hv0]
      obtain ⟨cellV, g1, g2, g3, -⟩ := (a1.2.2.2.1 v).1 ci _ hv1 hc
      have hcls := (a1.2.2.1.1 ci _ hc).2
      obtain ⟨kA, comp, k1, k2, k3, -⟩ := hRA
      have hcomp : comp = D.1.1 ci := Option.some.inj (k3.symm.trans hcls.1)
      subst hcomp
      obtain ⟨kC, hkC, -⟩ := hcls.2
      have fin2 := fin
      rw [rv_pos hv0] at fin2
      exact W.aast hC.1 hC.2.1 hcell (fun q h => by cases h) (fun h => by cases h) k1 k2 rfl hkC ⟨fun q => inb_el hj (Or.inl q), by show _ < (arrV _ _ _).slots.size; rw [arrV_size]; exact inb_lt hj⟩ g1 (fun q h => by rw [g3] at h; cases h) (by rw [g2]; exact hkC) (by rw [g2]; exact va_assign hcls) rfl rfl hd fin2
end RA
