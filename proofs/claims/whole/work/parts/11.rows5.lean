/-! ===== calls ===== -/
theorem cat_le (l : List Value) : (l.map fun v => v.category).sum ≤ 2 * l.length := by
  induction l with
  | nil => exact Nat.le_refl _
  | cons v l ih =>
    have : v.category ≤ 2 := by rcases lv_cat v with h | h <;> omega
    simp only [List.map_cons, List.sum_cons, List.length_cons]
    omega
/-- all that a call asks for, but the road to the callee -/
def CallOk (M Mc : Mt) (y : MethodName) (n : Nat) : Prop :=
  Cond.code y Mc.1 Mc.2.1 Mc.2.2.2.1 ∈ TB ∧ Mc.2.2.2.2.1 + 1 ≤ M.2.2.2.2.1 ∧ 8 + (Mc.2.1 + 11) + Mc.2.2.2.2.2.1 ≤ M.2.2.2.2.2.1 ∧ (y.cls ≠ "java/lang/invoke/MethodHandle" ∧ y.cls ≠ "java/lang/invoke/VarHandle") ∧ (parseMethodDescriptor y.desc).map (fun d => d.parameters.length) = some n ∧ Cond.initialized y.cls ∈ TB
theorem TB_mem {w : Cond} : ∀ x ∈ TB, x ∈ (w :: TB) := fun _ h => List.mem_cons_of_mem _ h
section RC
variable {M : Mt} {X : Xt} {σ : St} {pc : Nat} {L : List (Nat × Value)} {st : List Value}
theorem Con.blind {D : Dt} {as : List Value} : FrameBlind (va_Pc as (fun U => Wd D U U.heap σ ∧ NW U)) := by
  intro a U g mk h
  obtain ⟨h1, h2, h3⟩ := h
  exact ⟨h1, Wd.moved (u := U) (U := U.calling g mk a) (Vm.Alike.refl U.vm) h2, NW.blind h3⟩
theorem Con.pre {D : Dt} {s : State} {H : Heap} {as : List Value} (hW : Wd D s H σ) (hNW : NW s) : ∀ U : State, U.heap = H → s.WarmedH U.vm → va_Pc as (fun U => Wd D U U.heap σ ∧ NW U) as.toArray U := by
  intro U hU hw
  exact ⟨rfl, by rw [hU]; exact hW.moved hw.alike, hNW.warm hw⟩
theorem g_run {σ1 : St} {Mc : Mt} {y : MethodName} {as : List Value} {o : Option Value} {st0 : List Value} (hcon : Con Mc y X.1 σ as σ1 o) (kk : G M X σ1 (pc + 3) L (o.toList ++ st))
    (hrun : ∀ (p : Program) (e : Env) (R : Room) (s : State) (m : MethodId) (args : Array Value) (below : List Frame) (meth : Method) (c : Code) (Q : State → Prop) (D : Dt), Cx M X p e R s m args below meth c Q D → ∀ (H : Heap) (locs : List Loc) (k n : Nat) (ls : Array Slot), Wd D s H σ → ls.size = c.maxLocals →
      k + (sc σ1 - sc σ) ≤ R.cells ∧ n + (sw σ1 - sw σ) ≤ R.slots → va_Run p X.1 e R s m args below meth c H locs k n (sc σ1 - sc σ) (sw σ1 - sw σ) (F0 m pc ls st0) st (Qn D σ σ1 o as.toArray) (Fr σ)) : G M X σ pc L st0 := by
  have hk1 := kk.1
  have hk2 := hcon.1
  refine ⟨⟨by omega, by omega⟩, fun p e R s m args below meth c Q D hC H locs k n ls a1 a2 a3 a4 a5 a6 => ?_⟩
  obtain ⟨hx, hb, hml, hown, hts, hNW, hlk, hrt, ⟨r1, r2, r3, r4⟩, hini9, hQ, hXX⟩ := id hC
  intro T hT Y
  obtain ⟨v, st₀, t, T', L9, h0, X', hL, e1, e2, ⟨hv, hWd, hF, hFr⟩, st'⟩ := hrun p e R s m args below meth c Q D hC H locs k n ls a1 a6.1 ⟨by omega, by omega⟩ T hT Y
  cases hv
  obtain ⟨hz, hk⟩ := hF
  rw [h0] at hz hk
  have hvm : t.vm.Alike s.vm := by rw [← e2]; exact X'.warmed.alike.symm
  obtain ⟨t2, b1, b2⟩ := kk.2 p e R s m args below meth c Q D hC T'.heap (locs ++ L9) (k + (sc σ1 - sc σ)) (n + (sw σ1 - sw σ)) ls (by rw [e1]; exact hWd.moved hvm)
    ⟨Nat.le_trans a2.1 (by rw [e1]; exact hz), fun q h1 h2 => by rw [e1, hk q (Nat.lt_of_lt_of_le h1 a2.1) (fun z => h2 (a3 q z))]; exact a2.2.1 q h1 h2, fun q hq => by
      rcases List.mem_append.mp hq with h | h
      · exact a2.2.2 q h
      · exact a3 _ (hL q h)⟩ (fun q h => a3 q (hFr q h)) (by omega) (by omega) a6 T' rfl X'
  exact ⟨t2, st' t2 b1, b2⟩
theorem recv9 {D : Dt} {s : State} {H : Heap} {a ci : Nat} {C : String} {T : u_T} {N : Nat} (hW : Wd D s H σ) (hκ : sK σ a = ci + 1) (hc : vwCl[ci]? = some (C, T, N)) : ∃ cell : Cell, H[a - 1]? = some cell ∧ cell.vm.isStatics = false ∧ s.vm.findClass C = some cell.cls := by
  obtain ⟨cell, q1, q2, q3, -⟩ := (hW.2.2.2.1 a).1 ci _ hκ hc
  exact ⟨cell, q1, by rw [q3]; rfl, by rw [q2]; exact (hW.2.2.1.1 ci _ hc).2.1⟩
theorem goodCons {w : Cond} {l : List Cond} (h : w ∈ TB) (hl : GoodIn TB l) : GoodIn TB (w :: l) := by
  intro x hx
  rcases List.mem_cons.mp hx with rfl | hx
  · exact ⟨h, good_of_word (TB_good h)⟩
  · exact hl x hx
theorem goodTB : GoodIn TB TB := fun x hx => ⟨hx, good_of_word (TB_good hx)⟩
/-- invokevirtual in the same nest's class or of a public method: a class of ours, final -/
theorem g_callV {σ1 : St} {Mc : Mt} {y : MethodName} {a ci n idx : Nat} {T : u_T} {N : Nat} {as : List Value} {o : Option Value} {st0 : List Value} (hd : decode M.1 pc = .ok (.invokevirtual idx, 3)) (hcon : Con Mc y X.1 σ (rv a :: as) σ1 o) (hok : CallOk M Mc y n) (hκ : sK σ a = ci + 1) (hc : vwCl[ci]? = some (y.cls, T, N))
    (hl : Cond.methodLink M.2.2.1 idx y ∈ TB) (hin : Cond.instanceMethod y ∈ TB) (hse : Cond.selects y.cls y y ∈ TB) (hn : as.length = n) (hst : (st.map fun v => v.category).sum ≤ 8) (hs0 : st0 = as.reverse ++ rv a :: st) (kk : G M X σ1 (pc + 3) L (o.toList ++ st)) : G M X σ pc L st0 := by
  subst hs0
  obtain ⟨k1, k2, k3, k4, k5, k6⟩ := hok
  refine g_run hcon kk fun p e R s m args below meth c Q D hC H locs k n9 ls a1 a6 hroom => ?_
  obtain ⟨hx, hb, hml, hown, hts, hNW, hlk, hrt, ⟨r1, r2, r3, r4⟩, hini9, hQ, hXX⟩ := id hC
  have ha0 : a ≠ 0 := a1.ne0 (by omega)
  have hcon2 := hcon.2 D
  rw [rv_pos ha0] at hcon2 ⊢
  have hG : GoodIn TB (wsV M.2.2.1 idx y.cls y (.code y Mc.1 Mc.2.1 Mc.2.2.2.1 :: TB)) := goodCons hl (goodCons hin (goodCons hse (goodCons k6 (goodCons k1 goodTB))))
  exact va_runV (Ts := TB) (nL := M.2.1) (As := as) ⟨hx, hb, hml, hown, hts⟩ hcon2 (cwV n hts hG rfl rfl rfl ⟨rfl, k4.1, k4.2, k5⟩ ⟨by rw [r1]; exact k2, by rw [r2]; exact k3⟩) ⟨Con.blind, recv9 a1 hκ hc, Con.pre a1 hNW⟩ rfl hn (a6.trans hml) rfl (lv_room hst) hd hroom
/-- a private method of a nest mate -/
theorem g_callVN {σ1 : St} {Mc : Mt} {y : MethodName} {host : String} {a ci n idx : Nat} {T : u_T} {N : Nat} {as : List Value} {o : Option Value} {st0 : List Value} (hd : decode M.1 pc = .ok (.invokevirtual idx, 3)) (hcon : Con Mc y X.1 σ (rv a :: as) σ1 o) (hok : CallOk M Mc y n) (hκ : sK σ a = ci + 1) (hc : vwCl[ci]? = some (y.cls, T, N))
    (hl : Cond.methodLinkNest M.2.2.1 idx y host ∈ TN) (hin : Cond.instanceMethod y ∈ TB) (hse : Cond.selects y.cls y y ∈ TB) (hn : as.length = n) (hst : (st.map fun v => v.category).sum ≤ 8) (hs0 : st0 = as.reverse ++ rv a :: st) (kk : G M X σ1 (pc + 3) L (o.toList ++ st)) : G M X σ pc L st0 := by
  subst hs0
  obtain ⟨k1, k2, k3, k4, k5, k6⟩ := hok
  refine g_run hcon kk fun p e R s m args below meth c Q D hC H locs k n9 ls a1 a6 hroom => ?_
  obtain ⟨hx, hb, hml, hown, hts, hNW, hlk, hrt, ⟨r1, r2, r3, r4⟩, hini9, hQ, hXX⟩ := id hC
  have ha0 : a ≠ 0 := a1.ne0 (by omega)
  have hcon2 := hcon.2 D
  rw [rv_pos ha0] at hcon2 ⊢
  exact va_runVN (Ts := TB) (nL := M.2.1) (As := as) ⟨hx, hb, hml, hown, hts⟩ hcon2 ⟨va_cnB n hts (goodCons k1 goodTB) rfl rfl rfl (hNW _ hl) (hts _ k6) ⟨k4.1, k4.2, k5⟩ ⟨by rw [r1]; exact k2, by rw [r2]; exact k3⟩, hts _ hin, hts _ hse⟩ ⟨Con.blind, recv9 a1 hκ hc, Con.pre a1 hNW⟩ rfl hn (a6.trans hml) rfl (lv_room hst) hd hroom
/-- a constructor -/
theorem g_callI {σ1 : St} {Mc : Mt} {y : MethodName} {a n idx : Nat} {as : List Value} {st0 : List Value} (hd : decode M.1 pc = .ok (.invokespecial idx, 3)) (hcon : Con Mc y X.1 σ (rv a :: as) σ1 none) (hok : CallOk M Mc y n) (hret : Mc.2.2.2.1 = none) (hκ : sK σ a ≠ 0) (hy1 : y.name = "<init>")
    (hl : Cond.methodLink M.2.2.1 idx y ∈ TB) (hin : Cond.instanceMethod y ∈ TB) (hn : as.length = n) (hst : (st.map fun v => v.category).sum ≤ 8) (hs0 : st0 = as.reverse ++ rv a :: st) (kk : G M X σ1 (pc + 3) L st) : G M X σ pc L st0 := by
  subst hs0
  obtain ⟨k1, k2, k3, k4, k5, k6⟩ := hok
  refine g_run hcon kk fun p e R s m args below meth c Q D hC H locs k n9 ls a1 a6 hroom => ?_
  obtain ⟨hx, hb, hml, hown, hts, hNW, hlk, hrt, ⟨r1, r2, r3, r4⟩, hini9, hQ, hXX⟩ := id hC
  have ha0 : a ≠ 0 := a1.ne0 hκ
  have hcon2 := hcon.2 D
  rw [rv_pos ha0] at hcon2 ⊢
  rw [hret] at hcon2 k1
  exact va_runI (Ts := TB) (nL := M.2.1) (As := as) ⟨hx, hb, hml, hown, hts⟩ hcon2 (cwI n hts (goodCons k1 goodTB) rfl rfl rfl (hts _ k6) (hts _ hl) (hts _ hin) hy1 ⟨k4.1, k4.2, k5⟩ ⟨by rw [r1]; exact k2, by rw [r2]; exact k3⟩) ⟨Con.blind, Con.pre a1 hNW⟩ rfl hn (a6.trans hml) rfl (lv_room hst) hd hroom
theorem g_callIN {σ1 : St} {Mc : Mt} {y : MethodName} {host : String} {a n idx : Nat} {as : List Value} {st0 : List Value} (hd : decode M.1 pc = .ok (.invokespecial idx, 3)) (hcon : Con Mc y X.1 σ (rv a :: as) σ1 none) (hok : CallOk M Mc y n) (hret : Mc.2.2.2.1 = none) (hκ : sK σ a ≠ 0) (hy1 : y.name = "<init>")
    (hl : Cond.methodLinkNest M.2.2.1 idx y host ∈ TN) (hin : Cond.instanceMethod y ∈ TB) (hn : as.length = n) (hst : (st.map fun v => v.category).sum ≤ 8) (hs0 : st0 = as.reverse ++ rv a :: st) (kk : G M X σ1 (pc + 3) L st) : G M X σ pc L st0 := by
  subst hs0
  obtain ⟨k1, k2, k3, k4, k5, k6⟩ := hok
  refine g_run hcon kk fun p e R s m args below meth c Q D hC H locs k n9 ls a1 a6 hroom => ?_
  obtain ⟨hx, hb, hml, hown, hts, hNW, hlk, hrt, ⟨r1, r2, r3, r4⟩, hini9, hQ, hXX⟩ := id hC
  have ha0 : a ≠ 0 := a1.ne0 hκ
  have hcon2 := hcon.2 D
  rw [rv_pos ha0] at hcon2 ⊢
  rw [hret] at hcon2 k1
  exact va_runIN (Ts := TB) (nL := M.2.1) (As := as) ⟨hx, hb, hml, hown, hts⟩ hcon2 ⟨va_cnB n hts (goodCons k1 goodTB) rfl rfl rfl (hNW _ hl) (hts _ k6) ⟨k4.1, k4.2, k5⟩ ⟨by rw [r1]; exact k2, by rw [r2]; exact k3⟩, hy1, hts _ hin⟩ ⟨Con.blind, Con.pre a1 hNW⟩ rfl hn (a6.trans hml) rfl (lv_room hst) hd hroom
theorem g_callS {σ1 : St} {Mc : Mt} {y : MethodName} {n idx : Nat} {as : List Value} {o : Option Value} {st0 : List Value} (hd : decode M.1 pc = .ok (.invokestatic idx, 3)) (hcon : Con Mc y X.1 σ as σ1 o) (hok : CallOk M Mc y n)
    (hl : Cond.methodLink M.2.2.1 idx y ∈ TB) (hin : Cond.static y ∈ TB) (hn : as.length = n) (hst : (st.map fun v => v.category).sum ≤ 8) (hs0 : st0 = as.reverse ++ st) (kk : G M X σ1 (pc + 3) L (o.toList ++ st)) : G M X σ pc L st0 := by
  subst hs0
  obtain ⟨k1, k2, k3, k4, k5, k6⟩ := hok
  refine g_run hcon kk fun p e R s m args below meth c Q D hC H locs k n9 ls a1 a6 hroom => ?_
  obtain ⟨hx, hb, hml, hown, hts, hNW, hlk, hrt, ⟨r1, r2, r3, r4⟩, hini9, hQ, hXX⟩ := id hC
  exact va_runS (Ts := TB) (nL := M.2.1) (As := as) ⟨hx, hb, hml, hown, hts⟩ (hcon.2 D) (va_cwS n hts (goodCons hl (goodCons hin (goodCons k6 (goodCons k1 goodTB)))) rfl rfl rfl ⟨k4.1, k4.2, k5⟩ ⟨by rw [r1]; exact k2, by rw [r2]; exact k3⟩) ⟨Con.blind, Con.pre a1 hNW⟩ rfl hn (a6.trans hml) rfl (lv_room hst) hd hroom
theorem g_callSN {σ1 : St} {Mc : Mt} {y : MethodName} {host : String} {n idx : Nat} {as : List Value} {o : Option Value} {st0 : List Value} (hd : decode M.1 pc = .ok (.invokestatic idx, 3)) (hcon : Con Mc y X.1 σ as σ1 o) (hok : CallOk M Mc y n)
    (hl : Cond.methodLinkNest M.2.2.1 idx y host ∈ TN) (hin : Cond.static y ∈ TB) (hn : as.length = n) (hst : (st.map fun v => v.category).sum ≤ 8) (hs0 : st0 = as.reverse ++ st) (kk : G M X σ1 (pc + 3) L (o.toList ++ st)) : G M X σ pc L st0 := by
  subst hs0
  obtain ⟨k1, k2, k3, k4, k5, k6⟩ := hok
  refine g_run hcon kk fun p e R s m args below meth c Q D hC H locs k n9 ls a1 a6 hroom => ?_
  obtain ⟨hx, hb, hml, hown, hts, hNW, hlk, hrt, ⟨r1, r2, r3, r4⟩, hini9, hQ, hXX⟩ := id hC
  exact va_runSN (Ts := TB) (nL := M.2.1) (As := as) ⟨hx, hb, hml, hown, hts⟩ (hcon.2 D) ⟨va_cnB n hts (goodCons k1 goodTB) rfl rfl rfl (hNW _ hl) (hts _ k6) ⟨k4.1, k4.2, k5⟩ ⟨by rw [r1]; exact k2, by rw [r2]; exact k3⟩, hts _ hin, trivial⟩ ⟨Con.blind, Con.pre a1 hNW⟩ rfl hn (a6.trans hml) rfl (lv_room hst) hd hroom
theorem g_objInit {a idx : Nat} (hd : decode M.1 pc = .ok (.invokespecial idx, 3)) (ha : a ≠ 0) (hlink : Cond.methodLink M.2.2.1 idx Lib.objectInit ∈ TB) (hinst : Cond.instanceMethod Lib.objectInit ∈ TB) (hcode : Cond.code Lib.objectInit ⟨#[0xb1]⟩ 1 none ∈ TB) (hfr : 1 ≤ M.2.2.2.2.1) (hlo : 32 ≤ M.2.2.2.2.2.1) (hst : st.length ≤ 4)
    (kk : G M X σ (pc + 3) L st) : G M X σ pc L (rv a :: st) := by
  refine ⟨kk.1, fun p e R s m args below meth c Q D hC H locs k n ls a1 a2 a3 a4 a5 a6 => ?_⟩
  obtain ⟨hx, hb, hml, hown, hts, hNW, hlk, hrt, ⟨r1, r2, r3, r4⟩, hini9, hQ, hXX⟩ := id hC
  rw [rv_pos ha]
  have := cat_le st
  exact W.objInit hx hb hown (hts _ hlink) (hts _ hinst) (hts _ hcode) rfl a6.1 rfl hd (by omega) (by show 2 * 0 + _ + 12 ≤ _; omega) (kk.2 p e R s m args below meth c Q D hC H locs k n ls a1 a2 a3 a4 a5 a6)
/-! ===== ends ===== -/
theorem end9 {args : Array Value} {D : Dt} {s t : State} {H : Heap} {locs : List Loc} {σ0 : St} {o : Option Value} (a1 : Wd D s H σ) (a2 : va_S (Fr σ0) s.heap H locs) (a3 : ∀ q, Fr σ q → Fr σ0 q) (ht : t.heap = H) (hw : s.WarmedH t.vm) : Qn D σ0 σ o args s (.returned o) t :=
  ⟨rfl, by rw [ht]; exact a1.moved hw.alike, a2.F ht, a3⟩
theorem g_iret {v r : Int32} {ty : FieldType} (hd : decode M.1 pc = .ok (.ireturn, 1)) (hrt : M.2.2.2.1 = some ty) (hn : narrow ty (.int v) = .int v) (hX : X.2.2.2 = .inl (some (.int r))) {σf : St} (hf9 : X.2.2.1 = σf) (hf : some (σ, v) = some (σf, r)) : G M X σ pc L [.int v] := by
  cases hf
  subst hf9
  refine ⟨⟨Nat.le_refl _, Nat.le_refl _⟩, fun p e R s m args below meth c Q D hC H locs k n ls a1 a2 a3 a4 a5 a6 => ?_⟩
  obtain ⟨hx, hb, hml, hown, hts, hNW, hlk, hrt9, ⟨r1, r2, r3, r4⟩, hini9, hQ, hXX⟩ := id hC
  rw [hQ, QE_inl hX, show sc X.2.2.1 - sc X.2.1 = k by omega, show sw X.2.2.1 - sw X.2.1 = n by omega]
  exact W.zret hx hb (hrt9.trans hrt) hn (fun t ht hW => end9 a1 a2 a3 ht hW) a2.2.2 hd hlk
theorem g_lret {v r : Int64} (hd : decode M.1 pc = .ok (.lreturn, 1)) (hrt : M.2.2.2.1 = some .long) (hX : X.2.2.2 = .inl (some (.long r))) {σf : St} (hf9 : X.2.2.1 = σf) (hf : some (σ, v) = some (σf, r)) : G M X σ pc L [.long v] := by
  cases hf
  subst hf9
  refine ⟨⟨Nat.le_refl _, Nat.le_refl _⟩, fun p e R s m args below meth c Q D hC H locs k n ls a1 a2 a3 a4 a5 a6 => ?_⟩
  obtain ⟨hx, hb, hml, hown, hts, hNW, hlk, hrt9, ⟨r1, r2, r3, r4⟩, hini9, hQ, hXX⟩ := id hC
  rw [hQ, QE_inl hX, show sc X.2.2.1 - sc X.2.1 = k by omega, show sw X.2.2.1 - sw X.2.1 = n by omega]
  exact W.lret hx hb (hrt9.trans hrt) (fun t ht hW => end9 a1 a2 a3 ht hW) a2.2.2 hd hlk
theorem g_aret {v r : Nat} {ty : FieldType} (hd : decode M.1 pc = .ok (.areturn, 1)) (hrt : M.2.2.2.1 = some ty) (hty : isR ty = true) (hX : X.2.2.2 = .inl (some (rv r))) {σf : St} (hf9 : X.2.2.1 = σf) (hf : some (σ, v) = some (σf, r)) : G M X σ pc L [rv v] := by
  cases hf
  subst hf9
  refine ⟨⟨Nat.le_refl _, Nat.le_refl _⟩, fun p e R s m args below meth c Q D hC H locs k n ls a1 a2 a3 a4 a5 a6 => ?_⟩
  obtain ⟨hx, hb, hml, hown, hts, hNW, hlk, hrt9, ⟨r1, r2, r3, r4⟩, hini9, hQ, hXX⟩ := id hC
  rw [hQ, QE_inl hX, show sc X.2.2.1 - sc X.2.1 = k by omega, show sw X.2.2.1 - sw X.2.1 = n by omega]
  refine W.aret (rt := ty) hx hb (hrt9.trans hrt) ?_ ?_ (fun t ht hW => end9 a1 a2 a3 ht hW) a2.2.2 hd hlk
  · cases ty <;> first | exact Or.inl ⟨_, rfl⟩ | exact Or.inr ⟨_, rfl⟩ | cases hty
  · by_cases h : v = 0
    · exact Or.inl (by rw [h]; rfl)
    · exact Or.inr ⟨v - 1, rv_pos h⟩
theorem g_vret {r : Unit} (hd : decode M.1 pc = .ok (.return_, 1)) (hrt : M.2.2.2.1 = none) (hX : X.2.2.2 = .inl none) {σf : St} (hf9 : X.2.2.1 = σf) (hf : some (σ, ()) = some (σf, r)) : G M X σ pc L [] := by
  cases hf
  subst hf9
  refine ⟨⟨Nat.le_refl _, Nat.le_refl _⟩, fun p e R s m args below meth c Q D hC H locs k n ls a1 a2 a3 a4 a5 a6 => ?_⟩
  obtain ⟨hx, hb, hml, hown, hts, hNW, hlk, hrt9, ⟨r1, r2, r3, r4⟩, hini9, hQ, hXX⟩ := id hC
  rw [hQ, QE_inl hX, show sc X.2.2.1 - sc X.2.1 = k by omega, show sw X.2.2.1 - sw X.2.1 = n by omega]
  exact W.vret hx hb (hrt9.trans hrt) (fun t ht hW => end9 a1 a2 a3 ht hW) a2.2.2 hd hlk
/-! ===== constants, statics, numbers ===== -/
theorem g_ldc {idx : Nat} {v : Int32} (hd : decode M.1 pc = .ok (.ldc idx, 2)) (hc : Cond.constant M.2.2.1 idx v ∈ TB) (kk : G M X σ (pc + 2) L (.int v :: st)) : G M X σ pc L st :=
  ⟨kk.1, fun p e R s m args below meth c Q D hC H locs k n ls a1 a2 a3 a4 a5 a6 => lv_ldc hC.1 hC.2.1 hC.2.2.2.1 (hC.2.2.2.2.1 _ hc) hd (kk.2 p e R s m args below meth c Q D hC H locs k n ls a1 a2 a3 a4 a5 a6)⟩
theorem g_ldc2 {idx : Nat} {v : Int64} (hd : decode M.1 pc = .ok (.ldc2_w idx, 3)) (hc : Cond.constantLong M.2.2.1 idx v ∈ TB) (kk : G M X σ (pc + 3) L (.long v :: st)) : G M X σ pc L st :=
  ⟨kk.1, fun p e R s m args below meth c Q D hC H locs k n ls a1 a2 a3 a4 a5 a6 => lv_ldc2 hC.1 hC.2.1 hC.2.2.2.1 (hC.2.2.2.2.1 _ hc) hd (kk.2 p e R s m args below meth c Q D hC H locs k n ls a1 a2 a3 a4 a5 a6)⟩
theorem g_lcmp {x y : Int64} (hd : decode M.1 pc = .ok (.lcmp, 1)) (kk : G M X σ (pc + 1) L (.int (lg_cmp x y) :: st)) : G M X σ pc L (.long y :: .long x :: st) :=
  ⟨kk.1, fun p e R s m args below meth c Q D hC H locs k n ls a1 a2 a3 a4 a5 a6 => W.lcmp hC.1 hC.2.1 hd (kk.2 p e R s m args below meth c Q D hC H locs k n ls a1 a2 a3 a4 a5 a6)⟩
theorem g_gets0 {idx r : Nat} {C n9 d : String} {v : Value} (hZ : ∀ (s : State) (H : Heap), Sx s H σ → va_Z C n9 d v (Fr σ) s H) (hd : decode M.1 pc = .ok (.getstatic idx, 3)) (hl : Cond.fieldLink M.2.2.1 idx C n9 d ∈ TB) (kk : G M X σ (pc + 3) L (v :: st)) : G M X σ pc L st := by
  refine ⟨kk.1, fun p e R s m args below meth c Q D hC H locs k n ls a1 a2 a3 a4 a5 a6 => ?_⟩
  obtain ⟨cf, kf, fi, f, a, cell, h1, h2, h3, h4, h5, h6, h7, h8⟩ := hZ s H a1.2.2.2.2
  exact W.gets hC.1 hC.2.1 hC.2.2.2.1 (hC.2.2.2.2.1 _ hl) h1 h2 h3 h4 h5 (fun e => by rw [e] at h6; cases h6) h7 rfl hd (kk.2 p e R s m args below meth c Q D hC H locs k n ls a1 a2 a3 a4 a5 a6)
theorem g_getsKW {idx : Nat} (hd : decode M.1 pc = .ok (.getstatic idx, 3)) (hl : Cond.fieldLink M.2.2.1 idx RX11 "KNOWN_WORDS" "[I" ∈ TB) (kk : G M X σ (pc + 3) L (rv (sF σ 9001 0) :: st)) : G M X σ pc L st := g_gets0 (r := 0) (fun _ _ h => h.1) hd hl kk
theorem g_getsTN {idx : Nat} (hd : decode M.1 pc = .ok (.getstatic idx, 3)) (hl : Cond.fieldLink M.2.2.1 idx RX5 "TENS" "[I" ∈ TB) (kk : G M X σ (pc + 3) L (rv (sF σ 9002 0) :: st)) : G M X σ pc L st := g_gets0 (r := 0) (fun _ _ h => h.2.1) hd hl kk
theorem g_getsCS {idx : Nat} (hd : decode M.1 pc = .ok (.getstatic idx, 3)) (hl : Cond.fieldLink M.2.2.1 idx RJ0 "COMPACT_STRINGS" "Z" ∈ TB) (kk : G M X σ (pc + 3) L (.int 1 :: st)) : G M X σ pc L st := g_gets0 (r := 0) (fun _ _ h => h.2.2.1) hd hl kk
end RC
