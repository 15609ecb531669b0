/-- so often a loop may turn -/
def FU : Nat := 4294967296
def cb {α β : Type} (o : Option (St × α)) (k : St → α → Option β) : Option β := o.bind fun p => k p.1 p.2
theorem cb_el {α β : Type} {o : Option (St × α)} {k : St → α → Option β} {r : β} (h : cb o k = some r) : ∃ σ1 v, o = some (σ1, v) ∧ k σ1 v = some r := by
  obtain ⟨p, h1, h2⟩ := ob h
  exact ⟨p.1, p.2, h1, h2⟩
theorem ckK_el {σ : St} {κ a : Nat} {u : Unit} (h : ckK σ κ a = some u) : sK σ a = κ := by
  unfold ckK at h
  split at h
  · assumption
  · cases h
def ckD (y : Int32) : Option Unit := if y = 0 then none else some ()
theorem ckD_el {y : Int32} {u : Unit} (h : ckD y = some u) : ¬ y = 0 := by
  unfold ckD at h
  split at h
  · cases h
  · assumption
def ckDL (y : Int64) : Option Unit := if y = 0 then none else some ()
theorem ckDL_el {y : Int64} {u : Unit} (h : ckDL y = some u) : ¬ y = 0 := by
  unfold ckDL at h
  split at h
  · cases h
  · assumption
def ckZ (v : Int32) : Option Unit := if v = 0 ∨ v = 1 then some () else none
theorem ckZ_or {v : Int32} {u : Unit} (h : ckZ v = some u) : v = 0 ∨ v = 1 := by
  unfold ckZ at h
  split at h
  · assumption
  · cases h
theorem ckZ_el {v : Int32} {u : Unit} (h : ckZ v = some u) : narrow .boolean (.int v) = .int v := by
  rcases ckZ_or h with rfl | rfl <;> rfl
theorem ckZ_fit {v : Int32} {u : Unit} (h : ckZ v = some u) : fits .boolean (.int v) = true := by
  rcases ckZ_or h with rfl | rfl <;> rfl
def ckC (v : Int32) : Option Unit := if narrow .char (.int v) = .int v ∧ fits .char (.int v) = true then some () else none
theorem ckC_el {v : Int32} {u : Unit} (h : ckC v = some u) : narrow .char (.int v) = .int v := by
  unfold ckC at h
  split at h
  · rename_i q; exact q.1
  · cases h
def ckB (v : Int32) : Option Unit := if narrow .byte (.int v) = .int v ∧ fits .byte (.int v) = true then some () else none
theorem ckB_el {v : Int32} {u : Unit} (h : ckB v = some u) : narrow .byte (.int v) = .int v := by
  unfold ckB at h
  split at h
  · rename_i q; exact q.1
  · cases h
theorem ckB_fit {v : Int32} {u : Unit} (h : ckB v = some u) : fits .byte (.int v) = true := by
  unfold ckB at h
  split at h
  · rename_i q; exact q.2
  · cases h
def ckND (x : UInt64) : Option Unit := if x &&& 0x7fffffffffffffff ≤ 0x7ff0000000000000 then some () else none
theorem ckND_el {x : UInt64} {u : Unit} (h : ckND x = some u) : vf_n64 x := by
  unfold ckND at h
  split at h
  · assumption
  · cases h
def ckNF (x : UInt32) : Option Unit := if x &&& 0x7fffffff ≤ 0x7f800000 then some () else none
theorem ckNF_el {x : UInt32} {u : Unit} (h : ckNF x = some u) : vf_n32 x := by
  unfold ckNF at h
  split at h
  · assumption
  · cases h
/-- words by their places -/
theorem TB_all {ws : List Cond} (ix : List Nat) (h : ix.map (fun i => tables_1[i]?) = ws.map some) (hg : ws.all goodWord = true) : ∀ w ∈ ws, w ∈ TB := by
  intro w hw
  obtain ⟨k, hk⟩ := List.getElem?_of_mem hw
  have h1 : (ws.map some)[k]? = some (some w) := by rw [List.getElem?_map, hk]; rfl
  rw [← h, List.getElem?_map] at h1
  cases hi : ix[k]? with
  | none => rw [hi] at h1; cases h1
  | some i =>
    rw [hi] at h1
    exact TB_of (i := i) (Option.some.inj h1) (List.all_eq_true.mp hg w hw)
section R9
variable {M : Mt} {X : Xt} {σ : St} {pc : Nat} {L : List (Nat × Value)} {st : List Value}
theorem g_new9 {ci idx a : Nat} {C : String} {T : u_T} {N : Nat} {σ1 : St} (hd : decode M.1 pc = .ok (.new idx, 3)) (hc : vwCl[ci]? = some (C, T, N)) (hin : ∀ w ∈ u_ws C T N, w ∈ TB) (hty : ∀ k, k < N → parseFieldDescriptor (T k).2.2.1 = some (clT ci k)) (hdf : ∀ k, k < N → defaultValue (clT ci k) = if isR (clT ci k) = true then .null else .int 0)
    (hcl : Cond.classLink M.2.2.1 idx C ∈ TB) (hinst : Cond.instantiable C N ∈ TB) (hini : Cond.initialized C ∈ TB) (e1 : σ1 = nw (ci + 1) 0 N σ) (e2 : a = sz σ) (kk : G M X σ1 (pc + 3) L (rv a :: st)) : G M X σ pc L st := by
  subst e1; subst e2
  exact g_new hd hc hin hty hdf hcl hinst hini kk
theorem g_newa9 {ti a : Nat} {atype : ArrayType} {n : Int32} {σ1 : St} (hd : decode M.1 pc = .ok (.newarray atype, 2)) (e : nwA ti n σ = some σ1) (hti : ti < 4) (hty : newarray.typeOf atype = arT ti) (hcb : componentBytes (arT ti) ≤ 8) (hdf : defaultValue (arT ti) = if ti < 3 then .int 0 else .long 0) (harr : Cond.arrayClass (arT ti) ∈ TB) (e2 : a = sz σ)
    (kk : G M X σ1 (pc + 2) L (rv a :: st)) : G M X σ pc L (.int n :: st) := by
  subst e2
  exact g_newa hd e hti hty hcb hdf harr kk
theorem g_newq9 {ti a idx : Nat} {n : Int32} {σ1 : St} {C : String} (hd : decode M.1 pc = .ok (.anewarray idx, 3)) (e : nwA ti n σ = some σ1) (hti : 3 < ti ∧ ti < 9) (hty : arT ti = .object C) (hcl : Cond.classLink M.2.2.1 idx C ∈ TB) (harr : Cond.arrayOver (.object C) ∈ TN) (e2 : a = sz σ)
    (kk : G M X σ1 (pc + 3) L (rv a :: st)) : G M X σ pc L (.int n :: st) := by
  subst e2
  exact g_newq hd e hti hty hcl harr kk
theorem g_clone9 {ti a b idx : Nat} {σ1 : St} {ad : String} (hd : decode M.1 pc = .ok (.invokevirtual idx, 3)) (e : cln ti a σ = some σ1) (hti : ti < 9) (hR9 : ti = 0 ∨ isR (arT ti) = true ∧ 3 < ti) (hlink : Cond.methodLink M.2.2.1 idx ⟨ad, "clone", "()Ljava/lang/Object;"⟩ ∈ TB) (hsame : Cond.sameMethod ad "java/lang/Object" "clone" "()Ljava/lang/Object;" ∈ TB)
    (hnat : Cond.native ⟨"java/lang/Object", "clone", "()Ljava/lang/Object;"⟩ ∈ TB) (hinst : Cond.instanceMethod ⟨"java/lang/Object", "clone", "()Ljava/lang/Object;"⟩ ∈ TB) (hsel : Cond.selects ad ⟨ad, "clone", "()Ljava/lang/Object;"⟩ ⟨"java/lang/Object", "clone", "()Ljava/lang/Object;"⟩ ∈ TB) (hcl : Cond.castable ad "java/lang/Cloneable" ∈ TN)
    (hnm : ad = "[" ++ (arT ti).toString) (hfr : 1 ≤ M.2.2.2.2.1) (hlo : 32 ≤ M.2.2.2.2.2.1) (hst : st.length ≤ 8) (e2 : b = sz σ) (kk : G M X σ1 (pc + 3) L (rv b :: st)) : G M X σ pc L (rv a :: st) := by
  subst e2
  exact g_clone hd e hti hR9 hlink hsame hnat hinst hsel hcl hnm hfr hlo hst kk
end R9
theorem sl_n : (lg_sl []).length = 0 := rfl
theorem sl_r (r : Nat) (vs : List Value) : (lg_sl (rv r :: vs)).length = (lg_sl vs).length + 1 := by
  unfold lg_sl
  rw [List.flatMap_cons, List.length_append, if_neg (by rw [rv_cat]; decide)]
  exact Nat.add_comm _ _
theorem sl_i (x : Int32) (vs : List Value) : (lg_sl (.int x :: vs)).length = (lg_sl vs).length + 1 := by
  unfold lg_sl
  rw [List.flatMap_cons, List.length_append]
  exact Nat.add_comm _ _
theorem sl_l (x : Int64) (vs : List Value) : (lg_sl (.long x :: vs)).length = (lg_sl vs).length + 2 := by
  unfold lg_sl
  rw [List.flatMap_cons, List.length_append]
  exact Nat.add_comm _ _
theorem la_n (i : Nat) : lv_args i [] = [] := rfl
theorem la_r (i r : Nat) (vs : List Value) : lv_args i (rv r :: vs) = (i, rv r) :: lv_args (i + 1) vs := by
  show (i, rv r) :: lv_args (if (rv r).category = 2 then i + 2 else i + 1) vs = _
  rw [if_neg (by rw [rv_cat]; decide)]
theorem la_i (i : Nat) (x : Int32) (vs : List Value) : lv_args i (.int x :: vs) = (i, .int x) :: lv_args (i + 1) vs := rfl
theorem la_l (i : Nat) (x : Int64) (vs : List Value) : lv_args i (.long x :: vs) = (i, .long x) :: lv_args (i + 2) vs := rfl
def stZ (σ : St) (a : Nat) (j v : Int32) : Option St := if sK σ a = 102 ∧ inb j (sN σ a) = true ∧ (v = 0 ∨ v = 1) then some (wA σ a j.toNatClampNeg v) else none
section RZ
variable {M : Mt} {X : Xt} {σ : St} {pc : Nat} {L : List (Nat × Value)} {st : List Value}
theorem g_zald {a : Nat} {j v : Int32} (hd : decode M.1 pc = .ok (.baload, 1)) (e : ldB σ 2 a j = some v) (kk : G M X σ (pc + 1) L (.int v :: st)) : G M X σ pc L (.int j :: rv a :: st) := by
  unfold ldB at e
  split at e
  case isFalse => cases e
  case isTrue h =>
    cases e
    obtain ⟨hκ, hj⟩ := h
    refine ⟨kk.1, fun p e R s m args below meth c Q D hC H locs k9 n ls a1 a2 a3 a4 a5 a6 => ?_⟩
    have hg := kk.2 p e R s m args below meth c Q D hC H locs k9 n ls a1 a2 a3 a4 a5 a6
    have ha0 : a ≠ 0 := a1.ne0 (by omega)
    rw [rv_pos ha0]
    have hA := (cyT_arr (ti := 2) (by decide) a1.2.2.1).1 (sN σ a) (aval σ 2 a)
    exact W.zald hC.1 hC.2.1 ((a1.2.2.2.1 a).2.1 2 hκ (by decide)) hA (fun q => by cases q) (by show ¬ (j < 0 ∨ (arrV _ _ _).slots.size ≤ _); rw [arrV_size]; exact inb_el hj) (by show (arrV _ _ _).slots[_]? = _; rw [arrV_read _ _ (inb_lt hj)]; rfl) rfl rfl hd hg
theorem g_zast {σ1 : St} {a : Nat} {j v : Int32} (hd : decode M.1 pc = .ok (.bastore, 1)) (e : stZ σ a j v = some σ1) (kk : G M X σ1 (pc + 1) L st) : G M X σ pc L (.int v :: .int j :: rv a :: st) := by
  unfold stZ at e
  split at e
  case isFalse => cases e
  case isTrue h =>
    cases e
    obtain ⟨hκ, hj, hv⟩ := h
    refine ⟨kk.1, fun p e R s m args below meth c Q D hC H locs k9 n ls a1 a2 a3 a4 a5 a6 => ?_⟩
    have ha0 : a ≠ 0 := a1.ne0 (by omega)
    rw [rv_pos ha0]
    have hA := (cyT_arr (ti := 2) (by decide) a1.2.2.1).1 (sN σ a) (aval σ 2 a)
    refine W.zast hC.1 hC.2.1 ((a1.2.2.2.1 a).2.1 2 hκ (by decide)) hA (fun q => by cases q) (by show ¬ (j < 0 ∨ (arrV _ _ _).slots.size ≤ _); rw [arrV_size]; exact inb_el hj) rfl rfl hd fun H1 e1 e2 e3 => ?_
    rw [show narrow FieldType.boolean (.int v) = .int v from by rcases hv with h | h <;> rw [h] <;> rfl] at e1
    rw [arrV_upd (fun q => aval_wA (σ := σ) (a := a) (v := v) (ti := 2) (by decide) q)] at e1
    exact kk.2 p e R s m args below meth c Q D hC H1 _ k9 n ls (a1.putA (ti := 2) (σ1 := wA σ a j.toNatClampNeg v) hκ (by decide) e1 e2 e3 rfl rfl rfl rfl (fun b i hb => up2_ne (fun q => hb q.1)) (fun _ _ _ => rfl) (fun _ _ _ => rfl) rfl) (a2.put e2 e3 (a3 _ (Fr_arr (ti := 2) ha0 hκ (by decide)))) a3 a4 a5 a6
end RZ
section RL9
variable {M : Mt} {X : Xt} {σ : St} {pc : Nat} {L : List (Nat × Value)} {st : List Value}
theorem g_ldcw {idx : Nat} {v : Int32} (hd : decode M.1 pc = .ok (.ldc_w idx, 3)) (hc : Cond.constant M.2.2.1 idx v ∈ TB) (kk : G M X σ (pc + 3) L (.int v :: st)) : G M X σ pc L st :=
  ⟨kk.1, fun p e R s m args below meth c Q D hC H locs k n ls a1 a2 a3 a4 a5 a6 => lv_ldcw hC.1 hC.2.1 hC.2.2.2.1 (hC.2.2.2.2.1 _ hc) hd (kk.2 p e R s m args below meth c Q D hC H locs k n ls a1 a2 a3 a4 a5 a6)⟩
end RL9
section RLF
variable {M : Mt} {X : Xt} {σ : St} {pc : Nat} {L : List (Nat × Value)} {st : List Value}
theorem ldcwF {p : Program} {l : Launch} {e : Env} {R : Room} {s T : State} {m : MethodId} {args : Array Value} {below : List Frame} {meth : Method} {c : Code} {locs : List Loc} {cells slots : Nat}
    (X : Stand p l e R s m args below meth c T locs cells slots) (hexec : p.tables.exec = Jvm.exec) {own : String} {index : Nat} {v : UInt32} (hown : s.vm.findClass own = some m.cls)
    (hconst : (Cond.constantFloat own index v).before args s = true) {g : JFrame} (hg : g.method = m) (hdg : decode c.code g.pc = .ok (.ldc_w index, 3)) :
    ∀ target, Steps p.tables e below (T.setTop { g with pc := g.pc + 3, stack := .float v :: g.stack }) target → Steps p.tables e below (T.setTop g) target := by
  obtain ⟨k, cf, hk, hcf, hcp⟩ := Cond.constantFloat_spec hown hconst
  obtain ⟨k', hk', he⟩ := X.warmed.alike.2.2 _ _ hk
  intro target hrest
  subst hg
  jvm_step X.here [hexec, hdg, ldc_w.wp_float (s := T) (f := g) X.here.top hk' (by rw [he]; exact hcf) hcp]
  exact hrest
theorem g_ldcwF {idx : Nat} {v : UInt32} (hd : decode M.1 pc = .ok (.ldc_w idx, 3)) (hc : Cond.constantFloat M.2.2.1 idx v ∈ TB) (kk : G M X σ (pc + 3) L (.float v :: st)) : G M X σ pc L st :=
  ⟨kk.1, fun p e R s m args below meth c Q D hC H locs k n ls a1 a2 a3 a4 a5 a6 T hT XX => by
    obtain ⟨t, a, b⟩ := kk.2 p e R s m args below meth c Q D hC H locs k n ls a1 a2 a3 a4 a5 a6 T hT XX
    exact ⟨t, ldcwF XX hC.1 hC.2.2.2.1 (hC.2.2.2.2.1 _ hc) (g := F0 m pc ls st) rfl (by rw [hC.2.1]; exact hd) t a, b⟩⟩
end RLF
