/-! ===== reads of what was written ===== -/
theorem sK_wI (σ : St) (f a : Nat) (v : Int32) : sK (wI σ f a v) = sK σ := rfl
theorem sF_wI (σ : St) (f a : Nat) (v : Int32) : sF (wI σ f a v) = sF σ := rfl
theorem sK_wF (σ : St) (f a : Nat) (v : Nat) : sK (wF σ f a v) = sK σ := rfl
theorem up2_ne {α : Type} {f : Nat → Nat → α} {i j x y : Nat} {v : α} (h : ¬ (x = i ∧ y = j)) : up2 f i j v x y = f x y := if_neg h
theorem up2_eq {α : Type} {f : Nat → Nat → α} {i j : Nat} {v : α} : up2 f i j v i j = v := if_pos ⟨rfl, rfl⟩
theorem fval_wI {σ : St} {ci a k : Nat} {v : Int32} (hr : isR (clT ci k) = false) (j : Nat) : fval (wI σ (fid ci k) a v) ci a j = updV (fval σ ci a) k (.int v) j := by
  by_cases h : j = k
  · subst h
    simp [fval, hr, updV, wI, sI, up2]
  · have h2 : ¬ (fid ci j = fid ci k ∧ a = a) := fun q => h (by have := q.1; unfold fid at this; omega)
    simp only [fval, updV, if_neg h]
    rw [show sI (wI σ (fid ci k) a v) (fid ci j) a = sI σ (fid ci j) a from up2_ne h2]
    rfl
theorem fval_wF {σ : St} {ci a k : Nat} {v : Nat} (hr : isR (clT ci k) = true) (j : Nat) : fval (wF σ (fid ci k) a v) ci a j = updV (fval σ ci a) k (rv v) j := by
  by_cases h : j = k
  · subst h
    simp [fval, hr, updV, wF, sF, up2]
  · have h2 : ¬ (fid ci j = fid ci k ∧ a = a) := fun q => h (by have := q.1; unfold fid at this; omega)
    simp only [fval, updV, if_neg h]
    rw [show sF (wF σ (fid ci k) a v) (fid ci j) a = sF σ (fid ci j) a from up2_ne h2]
    rfl
/-- a field's store, in the world -/
theorem Wd.putO {D : Dt} {s : State} {H H1 : Heap} {σ σ1 : St} {a ci k : Nat} {C : String} {T : u_T} {N : Nat} {cell : Cell} {v : Value} (hW : Wd D s H σ) (hκ : sK σ a = ci + 1) (hc : vwCl[ci]? = some (C, T, N)) (hk : k < N)
    (hap : ∀ x y, x < N → y < N → x ≠ y → D.1.2 ci x ≠ D.1.2 ci y) (q1 : cell.cls = D.1.1 ci) (q2 : cell.vm = .none) (q3 : ∀ j, j < N → cell.slots[D.1.2 ci j]? = some (fval σ ci a j))
    (e1 : H1[a - 1]? = some (cell.setSlot (D.1.2 ci k) v)) (e2 : H1.size = H.size) (e3 : ∀ q, q ≠ a - 1 → H1[q]? = H[q]?)
    (gK : sK σ1 = sK σ) (gI : ∀ f b, b ≠ a → sI σ1 f b = sI σ f b) (gF : ∀ f b, b ≠ a → sF σ1 f b = sF σ f b) (gN : sN σ1 = sN σ) (gA : sA σ1 = sA σ) (gJ : sJ σ1 = sJ σ) (gQ : sQ σ1 = sQ σ) (gz : sz σ1 = sz σ)
    (gV : ∀ j, fval σ1 ci a j = updV (fval σ ci a) k v j) : Wd D s H1 σ1 := by
  obtain ⟨w1, w2, w3, w4, w5⟩ := hW
  have ha0 : a ≠ 0 := fun h => by rw [h, w2.1] at hκ; omega
  refine ⟨by rw [e2, gz]; exact w1, by rw [gK, gz]; exact w2, w3, fun b => ?_, w5.kept (gF _ _ ha0.symm) (gF _ _ ha0.symm) (fun q h => by unfold Fr at h ⊢; rw [gK, gz] at h; exact h) (fun q _ hq => e3 q fun h => hq (Or.inl ⟨by rw [h, show a - 1 + 1 = a by omega, hκ]; omega, by rw [h, show a - 1 + 1 = a by omega, hκ]; have := (List.getElem?_eq_some_iff.mp hc).1; have h17 : vwCl.length = 17 := rfl; omega⟩))⟩
  by_cases hb : b = a
  · subst hb
    have hci : ci < 17 := (List.getElem?_eq_some_iff.mp hc).1
    refine ⟨fun ci' r k1 k2 => ?_, fun ti k1 k2 => ?_, fun k1 => ?_⟩
    · rw [gK, hκ] at k1
      have h9 : ci' = ci := by omega
      subst h9
      rw [hc] at k2
      cases k2
      refine t_OB.to (V := updV (fval σ ci' b) k v) ⟨_, e1, q1, q2, t_set q3 (fun x y hx hy hne => hap x y hx hy hne) hk v⟩ (fun j _ => (gV j).symm)
    · rw [gK, hκ] at k1; omega
    · rw [gK, hκ] at k1; omega
  · by_cases hb0 : b = 0
    · exact cOK.zero (by rw [gK, hb0]; exact w2.1)
    · exact (w4 b).kept (by rw [gK]) (fun f => gI f b hb) (fun f => gF f b hb) (by rw [gN]) (fun j => by rw [gA]) (fun j => by rw [gJ]) (fun j => by rw [gQ]) (e3 (b - 1) (by omega))
theorem Fr_same {σ σ1 : St} (gK : sK σ1 = sK σ) (gz : sz σ1 = sz σ) {P : Nat → Prop} (h : ∀ q, Fr σ q → P q) : ∀ q, Fr σ1 q → P q := fun q hq => h q (by unfold Fr at hq ⊢; rw [gK, gz] at hq; exact hq)
/-- a row's store, in the world -/
theorem Wd.putA {D : Dt} {s : State} {H H1 : Heap} {σ σ1 : St} {a ti : Nat} (hW : Wd D s H σ) (hκ : sK σ a = 100 + ti) (hti : ti < 9)
    (e1 : H1[a - 1]? = some (arrV (D.2 ti) (sN σ a) (aval σ1 ti a))) (e2 : H1.size = H.size) (e3 : ∀ q, q ≠ a - 1 → H1[q]? = H[q]?)
    (gK : sK σ1 = sK σ) (gI : sI σ1 = sI σ) (gF : sF σ1 = sF σ) (gN : sN σ1 = sN σ) (gA : ∀ b j, b ≠ a → sA σ1 b j = sA σ b j) (gJ : ∀ b j, b ≠ a → sJ σ1 b j = sJ σ b j) (gQ : ∀ b j, b ≠ a → sQ σ1 b j = sQ σ b j) (gz : sz σ1 = sz σ) : Wd D s H1 σ1 := by
  obtain ⟨w1, w2, w3, w4, w5⟩ := hW
  have ha0 : a ≠ 0 := fun h => by rw [h, w2.1] at hκ; omega
  refine ⟨by rw [e2, gz]; exact w1, by rw [gK, gz]; exact w2, w3, fun b => ?_, w5.kept (by rw [gF]) (by rw [gF]) (fun q h => by unfold Fr at h ⊢; rw [gK, gz] at h; exact h) (fun q _ hq => e3 q fun h => hq (Or.inl ⟨by rw [h, show a - 1 + 1 = a by omega, hκ]; omega, by rw [h, show a - 1 + 1 = a by omega, hκ]; omega⟩))⟩
  by_cases hb : b = a
  · subst hb
    refine ⟨fun ci r k1 k2 => ?_, fun ti' k1 k2 => ?_, fun k1 => ?_⟩
    · rw [gK, hκ] at k1
      have hci : ci < 17 := (List.getElem?_eq_some_iff.mp k2).1
      omega
    · rw [gK, hκ] at k1
      have h9 : ti' = ti := by omega
      subst h9
      rw [gN]
      exact e1
    · rw [gK, hκ] at k1; omega
  · by_cases hb0 : b = 0
    · exact cOK.zero (by rw [gK, hb0]; exact w2.1)
    · exact (w4 b).kept (by rw [gK]) (fun f => by rw [gI]) (fun f => by rw [gF]) (by rw [gN]) (fun j => gA b j hb) (fun j => gJ b j hb) (fun j => gQ b j hb) (e3 (b - 1) (by omega))
theorem sK_nw {κ n w : Nat} {σ : St} (b : Nat) : sK (nw κ n w σ) b = if b = sz σ then κ else sK σ b := rfl
theorem Fr_nw {κ n w : Nat} {σ : St} : ∀ q, Fr (nw κ n w σ) q → Fr σ q := by
  intro q h
  by_cases hq : q + 1 = sz σ
  · exact Or.inr (by omega)
  · rcases h with h | h
    · rw [sK_nw, if_neg hq] at h
      exact Or.inl h
    · exact Or.inr (by have : sz σ + 1 ≤ q + 1 := h; omega)
/-- a new cell, in the world -/
theorem Wd.new {D : Dt} {s : State} {H H1 : Heap} {σ : St} {κ n w : Nat} (hW : Wd D s H σ) (hz : 0 < sz σ) (e2 : H1.size = H.size + 1) (e3 : ∀ q, q < H.size → H1[q]? = H[q]?) (e1 : cOK D s (nw κ n w σ) H1 (sz σ)) : Wd D s H1 (nw κ n w σ) := by
  obtain ⟨w1, w2, w3, w4, w5⟩ := hW
  have h0 : ∀ f, sF (nw κ n w σ) f 0 = sF σ f 0 := fun f => if_neg (by omega)
  refine ⟨by rw [e2]; show H.size + 1 + 1 = sz σ + 1; rw [w1], ⟨by rw [sK_nw, if_neg (by omega)]; exact w2.1, fun a ha => by have h9 : sz σ + 1 ≤ a := ha; rw [sK_nw, if_neg (by omega)]; exact w2.2 a (by omega)⟩, w3, fun b => ?_, w5.kept (h0 _) (h0 _) Fr_nw (fun q h1 _ => e3 q h1)⟩
  by_cases hb : b = sz σ
  · subst hb; exact e1
  · by_cases hlt : b < sz σ
    · by_cases hb0 : b = 0
      · exact cOK.zero (by rw [sK_nw, if_neg hb, hb0]; exact w2.1)
      · exact (w4 b).kept (if_neg hb) (fun f => if_neg hb) (fun f => if_neg hb) (if_neg hb) (fun j => if_neg hb) (fun j => if_neg hb) (fun j => if_neg hb) (e3 (b - 1) (by omega))
    · have hn : H[b - 1]? = none := by rw [Array.getElem?_eq_none_iff]; omega
      have hn1 : H1[b - 1]? = none := by rw [Array.getElem?_eq_none_iff]; omega
      exact (w4 b).kept (if_neg hb) (fun f => if_neg hb) (fun f => if_neg hb) (if_neg hb) (fun j => if_neg hb) (fun j => if_neg hb) (fun j => if_neg hb) (by rw [hn, hn1])
theorem va_S.newc {A : Nat → Prop} {H0 H H1 : Heap} {locs : List Loc} (h : va_S A H0 H locs) (e2 : H1.size = H.size + 1) (e3 : ∀ q, q < H.size → H1[q]? = H[q]?) : va_S A H0 H1 locs :=
  ⟨Nat.le_trans h.1 (by omega), fun x h1 h2 => (e3 x (Nat.lt_of_lt_of_le h1 h.1)).trans (h.2.1 x h1 h2), h.2.2⟩
