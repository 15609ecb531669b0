/-! ===== rows that make something ===== -/
theorem Wd.pos {D : Dt} {s : State} {H : Heap} {σ : St} (hW : Wd D s H σ) : 0 < sz σ := by
  have := hW.1
  omega
theorem sc_nw {κ n w : Nat} {σ : St} : sc (nw κ n w σ) = sc σ + 1 := rfl
theorem sw_nw {κ n w : Nat} {σ : St} : sw (nw κ n w σ) = sw σ + w := rfl
def nwA (ti : Nat) (n : Int32) (σ : St) : Option St := if ¬ n < 0 ∧ n.toNatClampNeg ≤ 60000000 then some (nw (100 + ti) n.toNatClampNeg n.toNatClampNeg σ) else none
/-- a copy of a row -/
def nwc (a : Nat) (σ : St) : St :=
  (fun b => if b = sz σ then sK σ a else sK σ b, fun f b => if b = sz σ then 0 else sI σ f b, fun f b => if b = sz σ then 0 else sF σ f b, fun b => if b = sz σ then sN σ a else sN σ b,
   fun b j => if b = sz σ then sA σ a j else sA σ b j, fun b j => if b = sz σ then sJ σ a j else sJ σ b j, fun b j => if b = sz σ then sQ σ a j else sQ σ b j, sz σ + 1, sc σ + 1, sw σ + sN σ a)
def cln (ti a : Nat) (σ : St) : Option St := if sK σ a = 100 + ti then some (nwc a σ) else none
theorem Wd.newc {D : Dt} {s : State} {H H1 : Heap} {σ : St} {a : Nat} (hW : Wd D s H σ) (hz : 0 < sz σ) (e2 : H1.size = H.size + 1) (e3 : ∀ q, q < H.size → H1[q]? = H[q]?) (e1 : cOK D s (nwc a σ) H1 (sz σ)) : Wd D s H1 (nwc a σ) := by
  obtain ⟨w1, w2, w3, w4, w5⟩ := hW
  have h0 : ∀ f, sF (nwc a σ) f 0 = sF σ f 0 := fun f => if_neg (by omega)
  have hF : ∀ q, Fr (nwc a σ) q → Fr σ q := by
    intro q h
    by_cases hq : q + 1 = sz σ
    · exact Or.inr (by omega)
    · rcases h with h | h
      · rw [show sK (nwc a σ) (q + 1) = sK σ (q + 1) from if_neg hq] at h
        exact Or.inl h
      · exact Or.inr (by have : sz σ + 1 ≤ q + 1 := h; omega)
  refine ⟨by rw [e2]; show H.size + 1 + 1 = sz σ + 1; rw [w1], ⟨by rw [show sK (nwc a σ) 0 = sK σ 0 from if_neg (by omega)]; exact w2.1, fun b hb => by have h9 : sz σ + 1 ≤ b := hb; rw [show sK (nwc a σ) b = sK σ b from if_neg (by omega)]; exact w2.2 b (by omega)⟩, w3, fun b => ?_, w5.kept (h0 _) (h0 _) hF (fun q h1 _ => e3 q h1)⟩
  by_cases hb : b = sz σ
  · subst hb; exact e1
  · by_cases hlt : b < sz σ
    · by_cases hb0 : b = 0
      · exact cOK.zero (by rw [show sK (nwc a σ) b = sK σ b from if_neg hb, hb0]; exact w2.1)
      · exact (w4 b).kept (if_neg hb) (fun f => if_neg hb) (fun f => if_neg hb) (if_neg hb) (fun j => if_neg hb) (fun j => if_neg hb) (fun j => if_neg hb) (e3 (b - 1) (by omega))
    · have hn : H[b - 1]? = none := by rw [Array.getElem?_eq_none_iff]; omega
      have hn1 : H1[b - 1]? = none := by rw [Array.getElem?_eq_none_iff]; omega
      exact (w4 b).kept (if_neg hb) (fun f => if_neg hb) (fun f => if_neg hb) (if_neg hb) (fun j => if_neg hb) (fun j => if_neg hb) (fun j => if_neg hb) (by rw [hn, hn1])
theorem Fr_nwc {a : Nat} {σ : St} : ∀ q, Fr (nwc a σ) q → Fr σ q := by
  intro q h
  by_cases hq : q + 1 = sz σ
  · exact Or.inr (by omega)
  · rcases h with h | h
    · rw [show sK (nwc a σ) (q + 1) = sK σ (q + 1) from if_neg hq] at h
      exact Or.inl h
    · exact Or.inr (by have : sz σ + 1 ≤ q + 1 := h; omega)
section RN
variable {M : Mt} {X : Xt} {σ : St} {pc : Nat} {L : List (Nat × Value)} {st : List Value}
theorem g_new {ci idx : Nat} {C : String} {T : u_T} {N : Nat} (hd : decode M.1 pc = .ok (.new idx, 3)) (hc : vwCl[ci]? = some (C, T, N)) (hin : ∀ w ∈ u_ws C T N, w ∈ TB) (hty : ∀ k, k < N → parseFieldDescriptor (T k).2.2.1 = some (clT ci k)) (hdf : ∀ k, k < N → defaultValue (clT ci k) = if isR (clT ci k) = true then .null else .int 0)
    (hcl : Cond.classLink M.2.2.1 idx C ∈ TB) (hinst : Cond.instantiable C N ∈ TB) (hini : Cond.initialized C ∈ TB) (kk : G M X (nw (ci + 1) 0 N σ) (pc + 3) L (rv (sz σ) :: st)) : G M X σ pc L st := by
  have hk1 := kk.1
  rw [sc_nw, sw_nw] at hk1
  refine ⟨⟨by omega, by omega⟩, fun p e R s m args below meth c Q D hC H locs k n ls a1 a2 a3 a4 a5 a6 => ?_⟩
  obtain ⟨hx, hb, hml, hown, hts, hNW, hlk, hrt, ⟨r1, r2, r3, r4⟩, hini9, hQ, hXX⟩ := id hC
  have hz := a1.pos
  have hKn := a1.2.2.1.1 ci _ hc
  rw [show rv (sz σ) = .ref (sz σ - 1) from rv_pos (by omega)] at kk
  have hs9 : H.size = sz σ - 1 := by have := a1.1; omega
  refine W.newcK hx hb hown (hts _ hcl) (hts _ hinst) (hts _ hini) rfl hd (by omega) (by omega) hKn.2.1 (h := sz σ - 1) hs9 fun H1 kC hkC e1 z1 o1 => ?_
  rw [← hs9] at z1
  have o1' : ∀ q, q < H.size → H1[q]? = H[q]? := fun q hq => o1 q (by rw [← hs9]; exact hq)
  refine kk.2 p e R s m args below meth c Q D hC H1 locs (k + 1) (n + N) ls (a1.new hz z1 o1' ⟨fun ci' r k1 k2 => ?_, fun ti k1 k2 => ?_, fun k1 => ?_⟩) (a2.newc z1 o1') (fun q h => a3 q (Fr_nw q h)) (by rw [sc_nw]; omega) (by rw [sw_nw]; omega) a6
  · rw [sK_nw, if_pos rfl] at k1
    have h9 : ci' = ci := by omega
    subst h9
    rw [hc] at k2
    cases k2
    refine (u_born (clT ci') hts hin hKn hkC e1 hty).to fun j hj => ?_
    rw [hdf j hj]
    have i1 : sI (nw (ci' + 1) 0 N σ) (fid ci' j) (sz σ) = 0 := if_pos rfl
    have i2 : sF (nw (ci' + 1) 0 N σ) (fid ci' j) (sz σ) = 0 := if_pos rfl
    unfold fval
    rw [i1, i2]
    rfl
  · rw [sK_nw, if_pos rfl] at k1
    have := cl_lt hc
    omega
  · rw [sK_nw, if_pos rfl] at k1
    have := cl_lt hc
    omega
theorem cOK_arr {D : Dt} {s : State} {σ1 : St} {H1 : Heap} {z ti : Nat} (hti : ti < 9) (k1 : sK σ1 z = 100 + ti) (h : H1[z - 1]? = some (arrV (D.2 ti) (sN σ1 z) (aval σ1 ti z))) : cOK D s σ1 H1 z := by
  refine ⟨fun ci r k2 k3 => ?_, fun ti' k2 k3 => ?_, fun k2 => ?_⟩
  · have := cl_lt k3
    omega
  · have h9 : ti' = ti := by omega
    subst h9
    exact h
  · omega
theorem aval_nw {κ n w ti j : Nat} (h : ti < 3 ∨ 3 < ti ∨ ti = 3) : aval (nw κ n w σ) ti (sz σ) j = if ti < 3 then .int 0 else if ti = 3 then .long 0 else .null := by
  have i1 : sA (nw κ n w σ) (sz σ) j = 0 := if_pos rfl
  have i2 : sJ (nw κ n w σ) (sz σ) j = 0 := if_pos rfl
  have i3 : sQ (nw κ n w σ) (sz σ) j = 0 := if_pos rfl
  unfold aval
  rw [i1, i2, i3]
  rfl
theorem nwA_el {ti : Nat} {n : Int32} {σ1 : St} (h : nwA ti n σ = some σ1) : ¬ n < 0 ∧ n.toNatClampNeg ≤ 60000000 ∧ nw (100 + ti) n.toNatClampNeg n.toNatClampNeg σ = σ1 := by
  unfold nwA at h
  split at h
  · rename_i q
    exact ⟨q.1, q.2, Option.some.inj h⟩
  · cases h
theorem g_newa {ti : Nat} {atype : ArrayType} {n : Int32} {σ1 : St} (hd : decode M.1 pc = .ok (.newarray atype, 2)) (e : nwA ti n σ = some σ1) (hti : ti < 4) (hty : newarray.typeOf atype = arT ti) (hcb : componentBytes (arT ti) ≤ 8) (hdf : defaultValue (arT ti) = if ti < 3 then .int 0 else .long 0) (harr : Cond.arrayClass (arT ti) ∈ TB)
    (kk : G M X σ1 (pc + 2) L (rv (sz σ) :: st)) : G M X σ pc L (.int n :: st) := by
  obtain ⟨hn, hle, rfl⟩ := nwA_el e
  have hk1 := kk.1
  rw [sc_nw, sw_nw] at hk1
  refine ⟨⟨by omega, by omega⟩, fun p e R s m args below meth c Q D hC H locs k n9 ls a1 a2 a3 a4 a5 a6 => ?_⟩
  obtain ⟨hx, hb, hml, hown, hts, hNW, hlk, hrt, ⟨r1, r2, r3, r4⟩, hini9, hQ, hXX⟩ := id hC
  have hz := a1.pos
  rw [show rv (sz σ) = .ref (sz σ - 1) from rv_pos (by omega)] at kk
  have hs9 : H.size = sz σ - 1 := by have := a1.1; omega
  have hRA := (cyT_arr (ti := ti) (by omega) a1.2.2.1).2
  refine va_newaK hx hb (by rw [hty]; exact hts _ harr) rfl hd rfl hn rfl (by rw [hty]; exact Nat.le_trans (Nat.mul_le_mul hle hcb) (by decide)) (by omega) (by omega) (h := sz σ - 1) hs9 fun H1 cA e1 z1 o1 hAr hNm => ?_
  rw [hty] at e1 hNm
  rw [← hs9] at z1
  have o1' : ∀ q, q < H.size → H1[q]? = H[q]? := fun q hq => o1 q (by rw [← hs9]; exact hq)
  have hcA : cA = D.2 ti := by
    have h9 : s.vm.findClass ("[" ++ (arT ti).toString) = some (D.2 ti) := by
      have h3 : ti = 0 ∨ ti = 1 ∨ ti = 2 ∨ ti = 3 := by omega
      rcases h3 with rfl | rfl | rfl | rfl <;> exact hRA
    exact Option.some.inj (hNm.symm.trans h9)
  subst hcA
  refine kk.2 p e R s m args below meth c Q D hC H1 locs (k + 1) _ ls (a1.new hz z1 o1' (cOK_arr (by omega) (if_pos rfl) ?_)) (a2.newc z1 o1') (fun q h => a3 q (Fr_nw q h)) (by rw [sc_nw]; omega) (by rw [sw_nw]; omega) a6
  rw [e1, show sN (nw (100 + ti) n.toNatClampNeg n.toNatClampNeg σ) (sz σ) = n.toNatClampNeg from if_pos rfl]
  congr 2
  funext j
  rw [aval_nw (by omega), hdf]
  by_cases h3 : ti < 3
  · simp [h3]
  · have h4 : ti = 3 := by omega
    simp [h4]
theorem g_newq {ti idx : Nat} {n : Int32} {σ1 : St} {C : String} (hd : decode M.1 pc = .ok (.anewarray idx, 3)) (e : nwA ti n σ = some σ1) (hti : 3 < ti ∧ ti < 9) (hty : arT ti = .object C) (hcl : Cond.classLink M.2.2.1 idx C ∈ TB) (harr : Cond.arrayOver (.object C) ∈ TN)
    (kk : G M X σ1 (pc + 3) L (rv (sz σ) :: st)) : G M X σ pc L (.int n :: st) := by
  obtain ⟨hn, hle, rfl⟩ := nwA_el e
  have hk1 := kk.1
  rw [sc_nw, sw_nw] at hk1
  refine ⟨⟨by omega, by omega⟩, fun p e R s m args below meth c Q D hC H locs k n9 ls a1 a2 a3 a4 a5 a6 => ?_⟩
  obtain ⟨hx, hb, hml, hown, hts, hNW, hlk, hrt, ⟨r1, r2, r3, r4⟩, hini9, hQ, hXX⟩ := id hC
  have hz := a1.pos
  rw [show rv (sz σ) = .ref (sz σ - 1) from rv_pos (by omega)] at kk
  have hs9 : H.size = sz σ - 1 := by have := a1.1; omega
  have hRA := (cyT_arr (ti := ti) hti.2 a1.2.2.1).2
  rw [hty] at hRA
  have hov : va_AO C s := hNW _ harr
  refine W.anew hx hb hown (hts _ hcl) (va_AO.use hov) rfl hd rfl hn (Nat.le_trans (Nat.mul_le_mul_right 4 hle) (by decide)) (by omega) (by omega) fun cA kA comp f1 f2 f3 f4 => ?_
  generalize hH1 : H.push ({ cls := cA, slots := Array.replicate n.toNatClampNeg .null, vm := .none } : Cell) = H1
  have z1 : H1.size = H.size + 1 := by rw [← hH1, Array.size_push]
  have e1 : H1[H.size]? = some (arrV cA n.toNatClampNeg (fun _ => .null)) := by rw [← hH1, Array.getElem?_push_size, ← arrV_new]
  have o1 : ∀ q : Nat, q < H.size → H1[q]? = H[q]? := fun q hq => by rw [← hH1, Array.getElem?_push, if_neg (Nat.ne_of_lt hq)]
  have hcA : cA = D.2 ti := by
    obtain ⟨_, _, _, _, _, h9⟩ := hRA
    exact Option.some.inj (f1.symm.trans h9)
  subst hcA
  rw [hs9] at e1
  have hsz : (Value.ref H.size) = Value.ref (sz σ - 1) := by rw [hs9]
  rw [hsz]
  refine kk.2 p e R s m args below meth c Q D hC H1 locs (k + 1) _ ls (a1.new hz z1 o1 (cOK_arr hti.2 (if_pos rfl) ?_)) (a2.newc z1 o1) (fun q h => a3 q (Fr_nw q h)) (by rw [sc_nw]; omega) (by rw [sw_nw]; omega) a6
  rw [e1, show sN (nw (100 + ti) n.toNatClampNeg n.toNatClampNeg σ) (sz σ) = n.toNatClampNeg from if_pos rfl]
  congr 2
  funext j
  rw [aval_nw (by omega)]
  have h3 : ¬ ti < 3 := by omega
  have h4 : ¬ ti = 3 := by omega
  simp [h3, h4]
theorem cln_el {ti a : Nat} {σ1 : St} (h : cln ti a σ = some σ1) : sK σ a = 100 + ti ∧ nwc a σ = σ1 := by
  unfold cln at h
  split at h
  · exact ⟨by assumption, Option.some.inj h⟩
  · cases h
theorem rv_fits {t : FieldType} (r : Nat) (h : isR t = true) : fits t (rv r) = true := by
  unfold rv
  cases t <;> first | (split <;> rfl) | cases h
theorem g_clone {ti a idx : Nat} {σ1 : St} {ad : String} (hd : decode M.1 pc = .ok (.invokevirtual idx, 3)) (e : cln ti a σ = some σ1) (hti : ti < 9) (hR9 : ti = 0 ∨ isR (arT ti) = true ∧ 3 < ti) (hlink : Cond.methodLink M.2.2.1 idx ⟨ad, "clone", "()Ljava/lang/Object;"⟩ ∈ TB) (hsame : Cond.sameMethod ad "java/lang/Object" "clone" "()Ljava/lang/Object;" ∈ TB)
    (hnat : Cond.native ⟨"java/lang/Object", "clone", "()Ljava/lang/Object;"⟩ ∈ TB) (hinst : Cond.instanceMethod ⟨"java/lang/Object", "clone", "()Ljava/lang/Object;"⟩ ∈ TB) (hsel : Cond.selects ad ⟨ad, "clone", "()Ljava/lang/Object;"⟩ ⟨"java/lang/Object", "clone", "()Ljava/lang/Object;"⟩ ∈ TB) (hcl : Cond.castable ad "java/lang/Cloneable" ∈ TN)
    (hnm : ad = "[" ++ (arT ti).toString) (hfr : 1 ≤ M.2.2.2.2.1) (hlo : 32 ≤ M.2.2.2.2.2.1) (hst : st.length ≤ 8) (kk : G M X σ1 (pc + 3) L (rv (sz σ) :: st)) : G M X σ pc L (rv a :: st) := by
  obtain ⟨hκ, rfl⟩ := cln_el e
  have hk1 : sc σ + 1 ≤ sc X.2.2.1 ∧ sw σ + sN σ a ≤ sw X.2.2.1 := kk.1
  refine ⟨⟨by omega, by omega⟩, fun p e R s m args below meth c Q D hC H locs k n9 ls a1 a2 a3 a4 a5 a6 => ?_⟩
  obtain ⟨hx, hb, hml, hown, hts, hNW, hlk, hrt, ⟨r1, r2, r3, r4⟩, hini9, hQ, hXX⟩ := id hC
  have hz := a1.pos
  have ha0 : a ≠ 0 := a1.ne0 (by omega)
  rw [show rv (sz σ) = .ref (sz σ - 1) from rv_pos (by omega)] at kk
  have hs9 : H.size = sz σ - 1 := by have := a1.1; omega
  rw [rv_pos ha0]
  have hcell := (a1.2.2.2.1 a).2.1 ti hκ hti
  obtain ⟨hA, hRA⟩ := cyT_arr (ti := ti) hti a1.2.2.1
  have hnmA : s.vm.findClass ad = some (D.2 ti) := by
    rw [hnm]
    have h3 : ti = 0 ∨ ti = 4 ∨ ti = 5 ∨ ti = 6 ∨ ti = 7 ∨ ti = 8 := by omega
    rcases h3 with rfl | rfl | rfl | rfl | rfl | rfl
    · exact hRA
    all_goals (obtain ⟨_, _, _, _, _, h9⟩ := hRA; exact h9)
  obtain ⟨c0, t0', f1, f2, f3⟩ := Cond.castable_spec (va_Nw.use (A := args) rfl (hNW _ hcl))
  cases hnmA.symm.trans f1
  intro T hT Y
  have hcellT : T.heap[a - 1]? = some (arrV (D.2 ti) (sN σ a) (aval σ ti a)) := by rw [hT]; exact hcell
  obtain ⟨-, kA, hkA, comp, hkind⟩ := State.isArrayOf_alike Y.warmed.alike (hA 0 (fun _ => .null))
  obtain ⟨-, kS, hkS, compS, hkindS⟩ := hA 0 (fun _ => .null)
  have hstc : (st.map fun v => v.category).sum ≤ 16 := by
    have h9 : ∀ l : List Value, (l.map fun v => v.category).sum ≤ 2 * l.length := by
      intro l
      induction l with
      | nil => exact Nat.le_refl _
      | cons v l ih =>
        have : v.category ≤ 2 := by rcases lv_cat v with h | h <;> omega
        simp only [List.map_cons, List.sum_cons, List.length_cons]
        omega
    have := h9 st
    omega
  obtain ⟨vm', X', st'⟩ := Y.cloneArray hx hown (hts _ hlink) (hts _ hsame) (hts _ hnat) (hts _ hinst) (hts _ hsel) (a := a - 1) (cell := arrV (D.2 ti) (sN σ a) (aval σ ti a)) hcellT (fun k h => by cases h) (fun h => by cases h) hnmA f2 f3
    (fun i v hv => by
      have hk' : T.vm.classes[D.2 ti]? = some kA := hkA
      have hf : fits (arT ti) v = true := by
        have hi : i < sN σ a := by have := (Array.getElem?_eq_some_iff.mp hv).1; rw [arrV_size] at this; exact this
        rw [arrV_read _ _ hi] at hv
        cases hv
        rcases hR9 with h0 | ⟨h0, h1⟩
        · subst h0; rfl
        · have h2 : ¬ ti < 3 := by omega
          have h3 : ¬ ti = 3 := by omega
          simp only [aval, if_neg h2, if_neg h3]
          exact rv_fits _ h0
      show State.fitsSlot _ (D.2 ti) .none i v = true
      simpa [State.fitsSlot, State.slotType?, hk', hkind] using hf)
    (g := F0 m pc ls (.ref (a - 1) :: st)) rfl (by show ls.size = _; exact a6.1) rfl (by rw [hb]; exact hd) (by omega) (by show 2 * 0 + _ + 14 ≤ _; omega) (by omega) (by rw [arrV_size]; omega) (hloader := Vm.clonesLoader_of_array hkS hkindS)
  have hcE : ({ cls := (arrV (D.2 ti) (sN σ a) (aval σ ti a)).cls, slots := (arrV (D.2 ti) (sN σ a) (aval σ ti a)).slots } : Cell) = arrV (D.2 ti) (sN σ a) (aval σ ti a) := rfl
  rw [hcE, arrV_size] at X'
  generalize hH1 : H.push (arrV (D.2 ti) (sN σ a) (aval σ ti a)) = H1
  have z1 : H1.size = H.size + 1 := by rw [← hH1, Array.size_push]
  have e1 : H1[H.size]? = some (arrV (D.2 ti) (sN σ a) (aval σ ti a)) := by rw [← hH1, Array.getElem?_push_size]
  have o1 : ∀ q : Nat, q < H.size → H1[q]? = H[q]? := fun q hq => by rw [← hH1, Array.getElem?_push, if_neg (Nat.ne_of_lt hq)]
  rw [hs9] at e1
  have hav : aval (nwc a σ) ti (sz σ) = aval σ ti a := by
    funext j
    have i1 : sA (nwc a σ) (sz σ) j = sA σ a j := if_pos rfl
    have i2 : sJ (nwc a σ) (sz σ) j = sJ σ a j := if_pos rfl
    have i3 : sQ (nwc a σ) (sz σ) j = sQ σ a j := if_pos rfl
    unfold aval
    rw [i1, i2, i3]
  obtain ⟨t, b1, b2⟩ := kk.2 p e R s m args below meth c Q D hC H1 locs (k + 1) (n9 + sN σ a) ls (a1.newc hz z1 o1 (cOK_arr hti ((if_pos rfl : sK (nwc a σ) (sz σ) = sK σ a).trans hκ) (by rw [e1, hav, show sN (nwc a σ) (sz σ) = sN σ a from if_pos rfl]))) (a2.newc z1 o1) (fun q h => a3 q (Fr_nwc q h)) (by show _ = sc σ + 1; omega) (by show _ = sw σ + sN σ a; omega) a6
    ((T.setVm vm').pushCell (arrV (D.2 ti) (sN σ a) (aval σ ti a))) (by rw [← hH1, ← hT]; rfl) X'
  refine ⟨t, st' t ?_, b2⟩
  rw [hcE, hT, hs9]
  exact b1
theorem g_castA {ti a idx : Nat} {u : Unit} {ad : String} (hd : decode M.1 pc = .ok (.checkcast idx, 3)) (e : ckK σ (100 + ti) a = some u) (hti : ti < 9) (hR9 : ti = 0 ∨ 3 < ti) (hcl : Cond.classLink M.2.2.1 idx ad ∈ TB) (hnm : ad = "[" ++ (arT ti).toString)
    (kk : G M X σ (pc + 3) L (rv a :: st)) : G M X σ pc L (rv a :: st) := by
  unfold ckK at e
  split at e
  case isFalse => cases e
  case isTrue hκ =>
    refine ⟨kk.1, fun p e R s m args below meth c Q D hC H locs k n9 ls a1 a2 a3 a4 a5 a6 => ?_⟩
    have ha0 : a ≠ 0 := a1.ne0 (by omega)
    rw [rv_pos ha0] at kk ⊢
    have hcell := (a1.2.2.2.1 a).2.1 ti hκ hti
    obtain ⟨hA, hRA⟩ := cyT_arr (ti := ti) hti a1.2.2.1
    have hnmA : s.vm.findClass ad = some (D.2 ti) := by
      rw [hnm]
      have h3 : ti = 0 ∨ ti = 4 ∨ ti = 5 ∨ ti = 6 ∨ ti = 7 ∨ ti = 8 := by omega
      rcases h3 with rfl | rfl | rfl | rfl | rfl | rfl
      · exact hRA
      all_goals (obtain ⟨_, _, _, _, _, h9⟩ := hRA; exact h9)
    intro T hT Y
    obtain ⟨vm', X', st'⟩ := Y.checkcastYes hC.1 hC.2.2.2.1 (hC.2.2.2.2.1 _ hcl) (by rw [hT]; exact hcell) rfl hnmA (va_asg _ _) (g := F0 m pc ls (.ref (a - 1) :: st)) rfl rfl (by rw [hC.2.1]; exact hd)
    obtain ⟨t, b1, b2⟩ := kk.2 p e R s m args below meth c Q D hC H locs k n9 ls a1 a2 a3 a4 a5 a6 (T.setVm vm') hT X'
    exact ⟨t, st' t b1, b2⟩
end RN
