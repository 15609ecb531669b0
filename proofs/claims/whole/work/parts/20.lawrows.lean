/-! ===== the law's own rows: calls of what may throw and their handlers, wrappers' ends, doubles ===== -/
section LWR
variable {M : Mt} {X : Xt} {σ : St} {pc : Nat} {L : List (Nat × Value)} {st : List Value}
theorem g_jld {a : Nat} {j : Int32} {v : Int64} (hd : decode M.1 pc = .ok (.laload, 1)) (e : ldJ σ a j = some v) (kk : G M X σ (pc + 1) L (.long v :: st)) : G M X σ pc L (.int j :: rv a :: st) := by
  unfold ldJ at e
  split at e
  case isFalse => cases e
  case isTrue h =>
    cases e
    obtain ⟨hκ, hj⟩ := h
    refine ⟨kk.1, fun p e R s m args below meth c Q D hC H locs k9 n ls a1 a2 a3 a4 a5 a6 => ?_⟩
    have hg := kk.2 p e R s m args below meth c Q D hC H locs k9 n ls a1 a2 a3 a4 a5 a6
    have ha0 : a ≠ 0 := a1.ne0 (by omega)
    rw [rv_pos ha0]
    have hA := (cyT_arr (ti := 3) (by decide) a1.2.2.1).1 (sN σ a) (aval σ 3 a)
    exact W.lald hC.1 hC.2.1 ((a1.2.2.2.1 a).2.1 3 hκ (by decide)) hA (fun q => by cases q) (by show ¬ (j < 0 ∨ (arrV _ _ _).slots.size ≤ _); rw [arrV_size]; exact inb_el hj) (by show (arrV _ _ _).slots[_]? = _; rw [arrV_read _ _ (inb_lt hj)]; rfl) rfl rfl hd hg
theorem g_dload {i j : Nat} {x : UInt64} (hd : decode M.1 pc = .ok (.dload i, 2)) (hl : L[j]? = some (i, .double x)) (kk : G M X σ (pc + 2) L (.double x :: st)) : G M X σ pc L st :=
  ⟨kk.1, fun p e R s m args below meth c Q D hC H locs k n ls a1 a2 a3 a4 a5 a6 => lv_dload hC.1 hC.2.1 hd (lv_at a6 j hl) (kk.2 p e R s m args below meth c Q D hC H locs k n ls a1 a2 a3 a4 a5 a6)⟩
theorem g_dstore {L' : List (Nat × Value)} {i : Nat} {x : UInt64} (hd : decode M.1 pc = .ok (.dstore i, 2)) (hn : i + 1 < M.2.1) (hl : (i, .double x) :: L.filter (fun q => !(q.1 == i) && (!(q.1 == i + 1) && !(q.1 + 1 == i && q.2.category == 2))) = L') (kk : G M X σ (pc + 2) L' st) : G M X σ pc L (.double x :: st) :=
  ⟨kk.1, fun p e R s m args below meth c Q D hC H locs k n ls a1 a2 a3 a4 a5 a6 => lv_dstore hC.1 hC.2.1 hd a6 (by rw [hC.2.2.1]; exact hn) hl (fun ls' a6' => kk.2 p e R s m args below meth c Q D hC H locs k n ls' a1 a2 a3 a4 a5 a6')⟩
theorem g_dcmp {x y : UInt64} {op : CmpOp} (hd : decode M.1 pc = .ok (.dcmp op, 1)) (kk : G M X σ (pc + 1) L (.int (Op.cmpValue (FP.dcmp x y) op) :: st)) : G M X σ pc L (.double y :: .double x :: st) :=
  ⟨kk.1, fun p e R s m args below meth c Q D hC H locs k n ls a1 a2 a3 a4 a5 a6 => lv_dcmp hC.1 hC.2.1 hd (kk.2 p e R s m args below meth c Q D hC H locs k n ls a1 a2 a3 a4 a5 a6)⟩
theorem g_f2d {x : UInt32} (hd : decode M.1 pc = .ok (.f2d, 1)) (hne : vf_n64 (FP.f2d x)) (kk : G M X σ (pc + 1) L (.double (FP.f2d x) :: st)) : G M X σ pc L (.float x :: st) :=
  ⟨kk.1, fun p e R s m args below meth c Q D hC H locs k n ls a1 a2 a3 a4 a5 a6 => lv_f2d hC.1 hC.2.1 hd hne (kk.2 p e R s m args below meth c Q D hC H locs k n ls a1 a2 a3 a4 a5 a6)⟩
theorem Fr_wz {z : Nat} (hz : sz σ ≤ z) : ∀ q, Fr (wz σ z) q → Fr σ q := by
  intro q h
  rcases h with h | h
  · exact Or.inl h
  · exact Or.inr (by have : z ≤ q + 1 := h; omega)
/-- a call of what may throw, and its handler -/
theorem g_runT {σ1 : St} {Mc : Mt} {y : MethodName} {as : List Value} {o : Option Value ⊕ String} {st0 : List Value} {K : (Dt → List Frame → Array Value → State → State → Prop) × List ExceptionTableEntry} (hX : X.2.2.2 = .inr (.inr K)) (hcon : ConT Mc y X.1 σ as σ1 o)
    (kk : ∀ v, o = .inl v → G M X σ1 (pc + 3) L (v.toList ++ st))
    (kx : ∀ E, o = .inr E → ∃ (pre : List ExceptionTableEntry) (x : ExceptionTableEntry) (suf : List ExceptionTableEntry) (name : String) (i len : Nat), K.2 = pre ++ x :: suf ∧ (∀ z ∈ pre, z.catchType ≠ 0 ∧ ∃ nm : String, Cond.classLink M.2.2.1 z.catchType nm ∈ TB ∧ (E, nm) ∈ NCL) ∧ covers x pc = true ∧ x.catchType ≠ 0 ∧
      Cond.classLink M.2.2.1 x.catchType name ∈ TB ∧ Cond.castable E name ∈ TN ∧ ((∃ q4 : Fin 4, decode M.1 x.handlerPc = .ok (.astore_n q4, 1) ∧ (q4 : Nat) = i ∧ len = 1) ∨ (decode M.1 x.handlerPc = .ok (.astore i, 2) ∧ len = 2)) ∧ i < M.2.1 ∧ ∀ z, sz σ1 ≤ z → G M X (wz σ1 z) (x.handlerPc + len) [] [])
    (hrun : ∀ (p : Program) (e : Env) (R : Room) (s : State) (m : MethodId) (args : Array Value) (below : List Frame) (meth : Method) (c : Code) (Q : State → Prop) (D : Dt), Cx M X p e R s m args below meth c Q D → ∀ (H : Heap) (locs : List Loc) (k n : Nat) (ls : Array Slot), Wd D s H σ → ls.size = c.maxLocals →
      k + (sc σ1 - sc σ) ≤ R.cells ∧ n + (sw σ1 - sw σ) ≤ R.slots → vx_Run p X.1 e R s m args below meth c H locs k n (sc σ1 - sc σ) (sw σ1 - sw σ) (F0 m pc ls st0) st (Qt D σ σ1 o as.toArray) (XCt D σ σ1 o) (Fr σ)) : G M X σ pc L st0 := by
  have hk2 := hcon.1
  have hk1 : sc σ1 ≤ sc X.2.2.1 ∧ sw σ1 ≤ sw X.2.2.1 := by
    cases o with
    | inl v => exact (kk v rfl).1
    | inr E =>
      obtain ⟨pre, x, suf, name, i, len, -, -, -, -, -, -, -, -, h⟩ := kx E rfl
      exact (h (sz σ1) (Nat.le_refl _)).1
  refine ⟨⟨by omega, by omega⟩, fun p e R s m args below meth c Q D hC H locs k n ls a1 a2 a3 a4 a5 a6 => ?_⟩
  obtain ⟨hx, hb, hml, hown, hts, hNW, hlk, hrt, ⟨r1, r2, r3, r4⟩, hini9, hQ, hXX⟩ := id hC
  intro T hT Y
  rcases hrun p e R s m args below meth c Q D hC H locs k n ls a1 a6.1 ⟨by omega, by omega⟩ T hT Y with ⟨v, st₀, t, T', L9, h0, X', hL, e1, e2, hq, st'⟩ | ⟨q, st₀, t, T', L9, E, ce, h0, X', hL, e1, e2, hq, hce, hcv, hcl, st'⟩
  · cases o with
    | inr E => exact hq.elim
    | inl o1 =>
      obtain ⟨hv, hWd, hF, hFr⟩ := hq
      cases hv
      obtain ⟨hz, hk⟩ := hF
      rw [h0] at hz hk
      have hvm : t.vm.Alike s.vm := by rw [← e2]; exact X'.warmed.alike.symm
      obtain ⟨t2, b1, b2⟩ := (kk _ rfl).2 p e R s m args below meth c Q D hC T'.heap (locs ++ L9) (k + (sc σ1 - sc σ)) (n + (sw σ1 - sw σ)) ls (by rw [e1]; exact hWd.moved hvm)
        ⟨Nat.le_trans a2.1 (by rw [e1]; exact hz), fun q h1 h2 => by rw [e1, hk q (Nat.lt_of_lt_of_le h1 a2.1) (fun z => h2 (a3 q z))]; exact a2.2.1 q h1 h2, fun q hq => by
          rcases List.mem_append.mp hq with h | h
          · exact a2.2.2 q h
          · exact a3 _ (hL q h)⟩ (fun q h => a3 q (hFr q h)) (by omega) (by omega) a6 T' rfl X'
      exact ⟨t2, st' t2 b1, b2⟩
  · cases o with
    | inl o1 => exact hq.elim
    | inr E1 =>
      obtain ⟨hE, ⟨z, hz9, hWd⟩, hF, hFr⟩ := hq
      subst hE
      obtain ⟨pre, x, suf, name, i, len, hsp, hpass, hcov, h09, hlink, hcast, hst9, hi9, hG⟩ := kx E rfl
      obtain ⟨hz, hk⟩ := hF
      rw [h0] at hz hk
      have hvm : t.vm.Alike s.vm := by rw [← e2]; exact X'.warmed.alike.symm
      have hGz := (hG z hz9).2 p e R s m args below meth c Q D hC T'.heap (locs ++ L9) (k + (sc σ1 - sc σ)) (n + (sw σ1 - sw σ))
      have hWW : ∀ ls' : Array Slot, lv_has ls' c.maxLocals [] → W p X.1 e R s m args below meth c T'.heap (locs ++ L9) (k + (sc σ1 - sc σ)) (n + (sw σ1 - sw σ)) Q (F0 m (x.handlerPc + len) ls' []) := fun ls' h9 =>
        hGz ls' (by rw [e1]; exact hWd.moved hvm) ⟨Nat.le_trans a2.1 (by rw [e1]; exact hz), fun q h1 h2 => by rw [e1, hk q (Nat.lt_of_lt_of_le h1 a2.1) (fun z => h2 (a3 q z))]; exact a2.2.1 q h1 h2, fun q hq => by
          rcases List.mem_append.mp hq with h | h
          · exact a2.2.2 q h
          · exact a3 _ (hL q h)⟩ (fun q h => a3 q (hFr q (Fr_wz hz9 q h))) (by show _ = sc σ1; omega) (by show _ = sw σ1; omega) h9
      have hn9 : i < c.maxLocals := by rw [hml]; exact hi9
      have hW2 : vx_W p X.1 e R s m args below meth c T'.heap (locs ++ L9) (k + (sc σ1 - sc σ)) (n + (sw σ1 - sw σ)) Q (F0 m pc ls st) q := by
        refine vx_catch (own := M.2.2.1) (name := name) (E := E) (ce := ce) hown pre x suf ((hXX.2.2 K hX).2.trans hsp) (fun z9 h9 => Or.inr ?_) hcov h09 (hts _ hlink) (va_Nw.use rfl (hNW _ hcast)) (by rw [e1]; exact hce) hcv hcl ?_
        · obtain ⟨g1, nm9, g2, g3⟩ := hpass z9 h9
          exact ⟨g1, nm9, hts _ g2, a1.2.2.2.2.2.2.2.2.2.2 _ g3⟩
        · rcases hst9 with ⟨q4, d1, d2, d3⟩ | ⟨d1, d3⟩
          · subst d3
            exact lv_astore_n hx hb d1 d2 a6 hn9 rfl (fun ls' h' => hWW ls' ⟨h'.1, h'.2.1, fun q hq => by cases hq⟩)
          · subst d3
            exact lv_astore hx hb d1 a6 hn9 rfl (fun ls' h' => hWW ls' ⟨h'.1, h'.2.1, fun q hq => by cases hq⟩)
      obtain ⟨t2, b1, b2⟩ := hW2 T' rfl X'
      exact ⟨t2, st'.trans b1, b2⟩
theorem g_callT {σ1 : St} {Mc : Mt} {y : MethodName} {a ci n idx : Nat} {T : u_T} {N : Nat} {as : List Value} {o : Option Value ⊕ String} {st0 : List Value} {K : (Dt → List Frame → Array Value → State → State → Prop) × List ExceptionTableEntry} (hX : X.2.2.2 = .inr (.inr K))
    (hd : decode M.1 pc = .ok (.invokevirtual idx, 3)) (hcon : ConT Mc y X.1 σ (rv a :: as) σ1 o) (hok : CallOk M Mc y n) (hκ : sK σ a = ci + 1) (hc : vwCl[ci]? = some (y.cls, T, N))
    (hl : Cond.methodLink M.2.2.1 idx y ∈ TB) (hin : Cond.instanceMethod y ∈ TB) (hse : Cond.selects y.cls y y ∈ TB) (hn : as.length = n) (hst : (st.map fun v => v.category).sum ≤ 8) (hs0 : st0 = as.reverse ++ rv a :: st)
    (kk : ∀ v, o = .inl v → G M X σ1 (pc + 3) L (v.toList ++ st))
    (kx : ∀ E, o = .inr E → ∃ (pre : List ExceptionTableEntry) (x : ExceptionTableEntry) (suf : List ExceptionTableEntry) (name : String) (i len : Nat), K.2 = pre ++ x :: suf ∧ (∀ z ∈ pre, z.catchType ≠ 0 ∧ ∃ nm : String, Cond.classLink M.2.2.1 z.catchType nm ∈ TB ∧ (E, nm) ∈ NCL) ∧ covers x pc = true ∧ x.catchType ≠ 0 ∧
      Cond.classLink M.2.2.1 x.catchType name ∈ TB ∧ Cond.castable E name ∈ TN ∧ ((∃ q4 : Fin 4, decode M.1 x.handlerPc = .ok (.astore_n q4, 1) ∧ (q4 : Nat) = i ∧ len = 1) ∨ (decode M.1 x.handlerPc = .ok (.astore i, 2) ∧ len = 2)) ∧ i < M.2.1 ∧ ∀ z, sz σ1 ≤ z → G M X (wz σ1 z) (x.handlerPc + len) [] []) : G M X σ pc L st0 := by
  subst hs0
  obtain ⟨k1, k2, k3, k4, k5, k6⟩ := hok
  refine g_runT hX hcon kk kx fun p e R s m args below meth c Q D hC H locs k n9 ls a1 a6 hroom => ?_
  obtain ⟨hx, hb, hml, hown, hts, hNW, hlk, hrt, ⟨r1, r2, r3, r4⟩, hini9, hQ, hXX⟩ := id hC
  have ha0 : a ≠ 0 := a1.ne0 (by omega)
  have hcon2 := hcon.2 D
  rw [rv_pos ha0] at hcon2 ⊢
  have hG : GoodIn TB (wsV M.2.2.1 idx y.cls y (.code y Mc.1 Mc.2.1 Mc.2.2.2.1 :: TB)) := goodCons hl (goodCons hin (goodCons hse (goodCons k6 (goodCons k1 goodTB))))
  exact vx_runV (Ts := TB) (nL := M.2.1) (As := as) ⟨hx, hb, hml, hown, hts⟩ hcon2 (cwV n hts hG rfl rfl rfl ⟨rfl, k4.1, k4.2, k5⟩ ⟨by rw [r1]; exact k2, by rw [r2]; exact k3⟩) ⟨Con.blind, recv9 a1 hκ hc, Con.pre a1 hNW⟩ rfl hn (a6.trans hml) rfl (lv_room hst) hd hroom
theorem g_callT_i {σ1 : St} {Mc : Mt} {y : MethodName} {a ci n idx : Nat} {T : u_T} {N : Nat} {as : List Value} {r : String ⊕ Int32} {st0 : List Value} {K : (Dt → List Frame → Array Value → State → State → Prop) × List ExceptionTableEntry} (hX : X.2.2.2 = .inr (.inr K))
    (hd : decode M.1 pc = .ok (.invokevirtual idx, 3)) (hcon : ConT Mc y X.1 σ (rv a :: as) σ1 (ocI r)) (hok : CallOk M Mc y n) (hκ : sK σ a = ci + 1) (hc : vwCl[ci]? = some (y.cls, T, N))
    (hl : Cond.methodLink M.2.2.1 idx y ∈ TB) (hin : Cond.instanceMethod y ∈ TB) (hse : Cond.selects y.cls y y ∈ TB) (hn : as.length = n) (hst : (st.map fun v => v.category).sum ≤ 8) (hs0 : st0 = as.reverse ++ rv a :: st)
    (kk : ∀ v, r = .inr v → G M X σ1 (pc + 3) L (.int v :: st))
    (kx : ∀ E, r = .inl E → ∃ (pre : List ExceptionTableEntry) (x : ExceptionTableEntry) (suf : List ExceptionTableEntry) (name : String) (i len : Nat), K.2 = pre ++ x :: suf ∧ (∀ z ∈ pre, z.catchType ≠ 0 ∧ ∃ nm : String, Cond.classLink M.2.2.1 z.catchType nm ∈ TB ∧ (E, nm) ∈ NCL) ∧ covers x pc = true ∧ x.catchType ≠ 0 ∧
      Cond.classLink M.2.2.1 x.catchType name ∈ TB ∧ Cond.castable E name ∈ TN ∧ ((∃ q4 : Fin 4, decode M.1 x.handlerPc = .ok (.astore_n q4, 1) ∧ (q4 : Nat) = i ∧ len = 1) ∨ (decode M.1 x.handlerPc = .ok (.astore i, 2) ∧ len = 2)) ∧ i < M.2.1 ∧ ∀ z, sz σ1 ≤ z → G M X (wz σ1 z) (x.handlerPc + len) [] []) : G M X σ pc L st0 := by
  refine g_callT hX hd hcon hok hκ hc hl hin hse hn hst hs0 (fun v h => ?_) (fun E h => ?_)
  · cases r with
    | inl E => cases h
    | inr w => cases h; exact kk w rfl
  · cases r with
    | inl E9 => cases h; exact kx E rfl
    | inr w => cases h
/-- the end of a method with handlers of its own: the heap may have grown by exceptions -/
def QW (D : Dt) (σ0 σ1 : St) (o : Option Value) : Array Value → State → Outcome → State → Prop := fun _ st oc t =>
  oc = .returned o ∧ (∃ z, sz σ1 ≤ z ∧ Wd D t t.heap (wz σ1 z) ∧ ∀ q, Fr (wz σ1 z) q → Fr σ0 q) ∧ va_F (Fr σ0) st t
def KW (σ0 σ1 : St) (o : Option Value) : Dt → List Frame → Array Value → State → State → Prop := fun D below args s => MQ below (QW D σ0 σ1 o) args s (sc σ1 - sc σ0) (sw σ1 - sw σ0) (Fr σ0)
def ConW (M : Mt) (y : MethodName) (hh : List (Nat × Nat × Nat × Nat)) (l : Launch) (σ : St) (as : List Value) (σ1 : St) (o : Option Value) : Prop :=
  (sc σ ≤ sc σ1 ∧ sw σ ≤ sw σ1) ∧ ∀ D : Dt, Met l y (.codeWith y M.1 M.2.1 M.2.2.2.1 hh :: TB) ({ frames := M.2.2.2.2.1, cells := sc σ1 - sc σ, slots := sw σ1 - sw σ, locals := M.2.2.2.2.2.1 }) (va_Pc as (fun U => Wd D U U.heap σ ∧ NW U))
    (QW D σ σ1 o) (sc σ1 - sc σ) (sw σ1 - sw σ) (Fr σ)
theorem ConW.of {l : Launch} {y : MethodName} {M : Mt} {hh : List (Nat × Nat × Nat × Nat)} {σ σ1 : St} {as : List Value} {o : Option Value} (hst : l.stackTraces = false) (hy : plainName y.cls = true) (hown : y.cls = M.2.2.1) (hi : M.2.2.2.2.2.2 = true → y.name = "<init>") (hn : (lg_sl as).length ≤ M.2.1)
    (hw : G M (l, σ, σ1, .inr (.inr (KW σ σ1 o, tableOf hh))) σ 0 (lv_args 0 as) []) : ConW M y hh l σ as σ1 o := by
  refine ⟨hw.1, fun D => ?_⟩
  refine va_MetW (cc := M.1) (maxL := M.2.1) (ret := M.2.2.2.1) (hh := hh) hy rfl ?_
  intro p e s m args below meth c s₁ B hml hv
  obtain ⟨rfl, hW, hNW⟩ := hv
  have hts := atoms_spec B.pre
  have hts2 : ∀ w ∈ TB, w.before as.toArray s = true := fun w h => hts w (List.mem_cons_of_mem _ h)
  have hex : c.exceptionTable.toList = tableOf hh := vx_table (x := y) B (hts _ List.mem_cons_self)
  have hl := lv_entry as (n := M.2.1) hn
  rw [lg_entry_eq]
  rw [← hml] at hl ⊢
  exact hw.2 p e _ s m as.toArray below meth c _ D ⟨B.exec, B.bytes, hml, hown ▸ findClass_of_methodNamed B.named, hts2, hNW, B.notSynchronized, B.returns, ⟨rfl, rfl, rfl, rfl⟩, fun h => (name_of_methodNamed B.named B.method).1.trans (hi h), rfl, (fun E h => by cases h), hW.2.2.2.2, (fun K h => by cases h; exact ⟨hst, hex⟩)⟩ s.heap [] 0 0 _ hW va_S.rf (fun _ h => h) rfl rfl hl
theorem g_iretW {v : Int32} {σ1 : St} {o : Option Value} {tab : List ExceptionTableEntry} (hd : decode M.1 pc = .ok (.ireturn, 1)) (hrt : M.2.2.2.1 = some .int) (hX : X.2.2.2 = .inr (.inr (KW X.2.1 σ1 o, tab))) (hf9 : X.2.2.1 = σ1) (ho : o = some (.int v)) (hz : ∃ z, σ = wz σ1 z ∧ sz σ1 ≤ z) : G M X σ pc L [.int v] := by
  obtain ⟨z, hσ, hz⟩ := hz
  have e1 : sc σ = sc σ1 := by rw [hσ]; rfl
  have e2 : sw σ = sw σ1 := by rw [hσ]; rfl
  refine ⟨⟨by rw [hf9, e1]; exact Nat.le_refl _, by rw [hf9, e2]; exact Nat.le_refl _⟩, fun p e R s m args below meth c Q D hC H locs k n ls a1 a2 a3 a4 a5 a6 => ?_⟩
  obtain ⟨hx, hb, hml, hown, hts, hNW, hlk, hrt9, ⟨r1, r2, r3, r4⟩, hini9, hQ, hXX⟩ := id hC
  rw [hQ, QE_K hX]
  show W p X.1 e R s m args below meth c H locs k n (MQ below (QW D X.2.1 σ1 o) args s (sc σ1 - sc X.2.1) (sw σ1 - sw X.2.1) (Fr X.2.1)) _
  rw [show sc σ1 - sc X.2.1 = k by omega, show sw σ1 - sw X.2.1 = n by omega, ho]
  exact W.zret hx hb (hrt9.trans hrt) rfl (fun t ht hW => ⟨rfl, ⟨z, hz, by rw [← hσ, ht]; exact a1.moved hW.alike, fun q h => a3 q (by rw [hσ]; exact h)⟩, a2.F ht⟩) a2.2.2 hd hlk
/-- a call of a method with handlers -/
theorem g_callW {σ1 : St} {Mc : Mt} {hh : List (Nat × Nat × Nat × Nat)} {y : MethodName} {n idx : Nat} {as : List Value} {r : Int32} {st0 : List Value} (hd : decode M.1 pc = .ok (.invokestatic idx, 3)) (hcon : ConW Mc y hh X.1 σ as σ1 (some (.int r)))
    (hok : Cond.codeWith y Mc.1 Mc.2.1 Mc.2.2.2.1 hh ∈ TB ∧ Mc.2.2.2.2.1 + 1 ≤ M.2.2.2.2.1 ∧ 8 + (Mc.2.1 + 11) + Mc.2.2.2.2.2.1 ≤ M.2.2.2.2.2.1 ∧ (y.cls ≠ "java/lang/invoke/MethodHandle" ∧ y.cls ≠ "java/lang/invoke/VarHandle") ∧ (parseMethodDescriptor y.desc).map (fun d => d.parameters.length) = some n ∧ Cond.initialized y.cls ∈ TB)
    (hl : Cond.methodLink M.2.2.1 idx y ∈ TB) (hin : Cond.static y ∈ TB) (hn : as.length = n) (hst : (st.map fun v => v.category).sum ≤ 8) (hs0 : st0 = as.reverse ++ st) (kk : ∀ z, sz σ1 ≤ z → G M X (wz σ1 z) (pc + 3) L (.int r :: st)) : G M X σ pc L st0 := by
  subst hs0
  obtain ⟨k1, k2, k3, k4, k5, k6⟩ := hok
  have hk1 : sc σ1 ≤ sc X.2.2.1 ∧ sw σ1 ≤ sw X.2.2.1 := (kk (sz σ1) (Nat.le_refl _)).1
  have hk2 := hcon.1
  refine ⟨⟨by omega, by omega⟩, fun p e R s m args below meth c Q D hC H locs k n9 ls a1 a2 a3 a4 a5 a6 => ?_⟩
  obtain ⟨hx, hb, hml, hown, hts, hNW, hlk, hrt, ⟨r1, r2, r3, r4⟩, hini9, hQ, hXX⟩ := id hC
  intro T hT Y
  have hrun := vx_runSW (Ts := TB) (nL := M.2.1) (As := as) (p := p) (l := X.1) (e := e) (R := R) (s := s) (m := m) (args := args) (below := below) (meth := meth) (c := c) (H := H) (locs := locs) (cells := k) (slots := n9) (g := F0 m pc ls (as.reverse ++ st)) (rest := st) ⟨hx, hb, hml, hown, hts⟩ (hcon.2 D)
    (vx_cwSW n hts (goodCons hl (goodCons hin (goodCons k6 (goodCons k1 goodTB)))) rfl rfl rfl ⟨k4.1, k4.2, k5⟩ ⟨by rw [r1]; exact k2, by rw [r2]; exact k3⟩) ⟨Con.blind, Con.pre a1 hNW⟩ rfl hn (a6.1.trans hml) rfl (lv_room hst) hd ⟨by omega, by omega⟩
  obtain ⟨v, st₀, t, T', L9, h0, X', hL, e1, e2, ⟨hv, ⟨z, hz9, hWd, hFr⟩, hF⟩, st'⟩ := hrun T hT Y
  cases hv
  obtain ⟨hz, hk⟩ := hF
  rw [h0] at hz hk
  have hvm : t.vm.Alike s.vm := by rw [← e2]; exact X'.warmed.alike.symm
  obtain ⟨t2, b1, b2⟩ := (kk z hz9).2 p e R s m args below meth c Q D hC T'.heap (locs ++ L9) (k + (sc σ1 - sc σ)) (n9 + (sw σ1 - sw σ)) ls (by rw [e1]; exact hWd.moved hvm)
    ⟨Nat.le_trans a2.1 (by rw [e1]; exact hz), fun q h1 h2 => by rw [e1, hk q (Nat.lt_of_lt_of_le h1 a2.1) (fun z => h2 (a3 q z))]; exact a2.2.1 q h1 h2, fun q hq => by
      rcases List.mem_append.mp hq with h | h
      · exact a2.2.2 q h
      · exact a3 _ (hL q h)⟩ (fun q h => a3 q (hFr q h)) (by show _ = sc σ1; omega) (by show _ = sw σ1; omega) a6 T' rfl X'
  exact ⟨t2, st' t2 b1, b2⟩
end LWR
theorem nm_elP {α : Type} {e : α} {k : α → Prop} (h : nm e k) : ∃ v, v = e ∧ k v := ⟨e, rfl, h⟩
def exB {α : Type} (o : Option α) (k : α → Prop) : Prop := ∃ v, o = some v ∧ k v
def exC {α : Type} (o : Option (St × α)) (k : St → α → Prop) : Prop := ∃ σ1 v, o = some (σ1, v) ∧ k σ1 v
/-- what comes behind a method with handlers: any size of the heap from the one told on -/
def exW (o : Option (St × Int32)) (k : St → Int32 → Prop) : Prop := ∃ σ1 v, o = some (σ1, v) ∧ ∀ z, sz σ1 ≤ z → k (wz σ1 z) v
