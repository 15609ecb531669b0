/-! ===== the words that a callee may take over from its caller; the same list for every method ===== -/
/-- what a StringBuilder selects for its superclass' private methods: not told, but true (lw_ex_ok) -/
def lw_ex : List Cond := [Cond.selects "java/lang/StringBuilder" ⟨"java/lang/AbstractStringBuilder", "ensureCapacityInternal", "(I)V"⟩ ⟨"java/lang/AbstractStringBuilder", "ensureCapacityInternal", "(I)V"⟩,
  Cond.selects "java/lang/StringBuilder" ⟨"java/lang/AbstractStringBuilder", "newCapacity", "(I)I"⟩ ⟨"java/lang/AbstractStringBuilder", "newCapacity", "(I)I"⟩]
def TB : List Cond := (lw_ex ++ lw_tbl).filter goodWord
theorem TB_of {w : Cond} {i : Nat} (h : tables_1[i]? = some w) (g : goodWord w = true) : w ∈ TB :=
  List.mem_filter.mpr ⟨List.mem_append_right _ (List.mem_append_right _ (List.mem_of_getElem? h)), g⟩
theorem TB_sel {q : MethodName × Nat} {i : Nat} (h : lw_privs[i]? = some q) : Cond.selects q.1.cls q.1 q.1 ∈ TB :=
  List.mem_filter.mpr ⟨List.mem_append_right _ (List.mem_append_left _ (List.mem_map.mpr ⟨q, List.mem_of_getElem? h, rfl⟩)), rfl⟩
theorem TB_ex {w : Cond} {i : Nat} (h : lw_ex[i]? = some w) (g : goodWord w = true) : w ∈ TB :=
  List.mem_filter.mpr ⟨List.mem_append_left _ (List.mem_of_getElem? h), g⟩
theorem selp {C : String} {y : MethodName} {s : State} {args : Array Value} {n : Nat} (hy : y.cls ≠ "java/lang/invoke/MethodHandle" ∧ y.cls ≠ "java/lang/invoke/VarHandle")
    (hinc : (Cond.instantiable C n).before args s = true) (hsel0 : (Cond.selects y.cls y y).before args s = true) (hpriv : (Cond.privateMethod y).before args s = true) (hinst : (Cond.instanceMethod y).before args s = true) :
    (Cond.selects C y y).before args s = true := by
  obtain ⟨c, k, hc, hk, -, hniab, -, -⟩ := Cond.instantiable_spec hinc
  obtain ⟨mk, methM, hnamed, hmethM, -, -⟩ := Cond.instanceMethod_spec hinst
  have hfound : s.methodFound? y.cls y.name y.desc = some mk := State.methodFound?_of_named hnamed hy
  have hsel : selectMethod {} s.vm c mk = .method mk := selectMethod_private hmethM (Cond.privateMethod_at hpriv mk methM hnamed hmethM)
  obtain ⟨c2, hc2⟩ : ∃ c2, s.vm.findClass y.cls = some c2 := ⟨_, findClass_of_methodNamed hnamed⟩
  have hsel2 : selectMethod {} s.vm c2 mk = .method mk := selectMethod_private hmethM (Cond.privateMethod_at hpriv mk methM hnamed hmethM)
  simp only [Cond.before, Cond.holds, Cond.value, hc2, hfound, hnamed, hsel2] at hsel0
  simp only [Cond.before, Cond.holds, Cond.value, hc, hfound, hnamed, hsel]
  exact hsel0
theorem TB_good {w : Cond} (h : w ∈ TB) : goodWord w = true := (List.mem_filter.mp h).2
theorem TB_GoodIn {w : Cond} (h : w ∈ TB) {Ts : List Cond} (hT : ∀ x ∈ TB, x ∈ Ts) : GoodIn Ts (w :: TB) := by
  intro x hx
  rcases List.mem_cons.mp hx with rfl | hx
  · exact ⟨hT _ h, good_of_word (TB_good h)⟩
  · exact ⟨hT _ hx, good_of_word (TB_good hx)⟩
/-- words that are asked of the start of a method again, and warm one by one -/
def nsW : Cond → Bool
  | .fieldLinkNest .. => true
  | .methodLinkNest .. => true
  | .castable .. => true
  | .declares _ => true
  | .arrayOver (.object _) => true
  | _ => false
def TN : List Cond := tables_1.filter nsW
theorem TN_of {w : Cond} {i : Nat} (h : tables_1[i]? = some w) (g : nsW w = true) : w ∈ TN := List.mem_filter.mpr ⟨List.mem_of_getElem? h, g⟩
def NW (U : State) : Prop := ∀ w ∈ TN, va_Nw w U
theorem NW.warm {s U : State} (hW : s.WarmedH U.vm) (h : NW s) : NW U := by
  intro w hw
  have h1 := h w hw
  have h2 := (List.mem_filter.mp hw).2
  unfold nsW at h2
  split at h2
  · exact va_Nw.warmF hW h1
  · exact va_Nw.warmM hW h1
  · exact va_Nw.warmC hW h1
  · exact va_Nw.warmD hW h1
  · exact va_AO.moved hW.alike h1
  · cases h2
theorem NW.blind {U : State} {g : JFrame} {mk : MethodId} {a : Array Value} (h : NW U) : NW (U.calling g mk a) := by
  intro w hw
  have h1 := h w hw
  have h2 := (List.mem_filter.mp hw).2
  unfold nsW at h2
  split at h2
  · exact va_Nw.same rfl rfl h1
  · exact va_Nw.same rfl rfl h1
  · exact va_Nw.same rfl rfl h1
  · exact va_Nw.same rfl rfl h1
  · exact va_AO.moved (u := U) (Vm.Alike.refl U.vm) h1
  · cases h2
/-! ===== the heap, split: kinds, int fields, reference fields, lengths, the contents of rows of ints, of longs, of references; how many cells there are, how many were made, how many slots ===== -/
abbrev St : Type := (Nat → Nat) × (Nat → Nat → Int32) × (Nat → Nat → Nat) × (Nat → Nat) × (Nat → Nat → Int32) × (Nat → Nat → Int64) × (Nat → Nat → Nat) × Nat × Nat × Nat
def sK (σ : St) : Nat → Nat := σ.1
def sI (σ : St) : Nat → Nat → Int32 := σ.2.1
def sF (σ : St) : Nat → Nat → Nat := σ.2.2.1
def sN (σ : St) : Nat → Nat := σ.2.2.2.1
def sA (σ : St) : Nat → Nat → Int32 := σ.2.2.2.2.1
def sJ (σ : St) : Nat → Nat → Int64 := σ.2.2.2.2.2.1
def sQ (σ : St) : Nat → Nat → Nat := σ.2.2.2.2.2.2.1
def sz (σ : St) : Nat := σ.2.2.2.2.2.2.2.1
def sc (σ : St) : Nat := σ.2.2.2.2.2.2.2.2.1
def sw (σ : St) : Nat := σ.2.2.2.2.2.2.2.2.2
def up2 {α : Type} (f : Nat → Nat → α) (i j : Nat) (v : α) : Nat → Nat → α := fun x y => if x = i ∧ y = j then v else f x y
def wI (σ : St) (f a : Nat) (v : Int32) : St := (sK σ, up2 (sI σ) f a v, sF σ, sN σ, sA σ, sJ σ, sQ σ, sz σ, sc σ, sw σ)
def wF (σ : St) (f a : Nat) (v : Nat) : St := (sK σ, sI σ, up2 (sF σ) f a v, sN σ, sA σ, sJ σ, sQ σ, sz σ, sc σ, sw σ)
def wA (σ : St) (a j : Nat) (v : Int32) : St := (sK σ, sI σ, sF σ, sN σ, up2 (sA σ) a j v, sJ σ, sQ σ, sz σ, sc σ, sw σ)
def wJ (σ : St) (a j : Nat) (v : Int64) : St := (sK σ, sI σ, sF σ, sN σ, sA σ, up2 (sJ σ) a j v, sQ σ, sz σ, sc σ, sw σ)
def wQ (σ : St) (a j : Nat) (v : Nat) : St := (sK σ, sI σ, sF σ, sN σ, sA σ, sJ σ, up2 (sQ σ) a j v, sz σ, sc σ, sw σ)
/-- a new cell of kind κ, n places, w slots, all 0 -/
def nw (κ n w : Nat) (σ : St) : St :=
  (fun b => if b = sz σ then κ else sK σ b, fun f b => if b = sz σ then 0 else sI σ f b, fun f b => if b = sz σ then 0 else sF σ f b, fun b => if b = sz σ then n else sN σ b,
   fun b j => if b = sz σ then 0 else sA σ b j, fun b j => if b = sz σ then 0 else sJ σ b j, fun b j => if b = sz σ then 0 else sQ σ b j, sz σ + 1, sc σ + 1, sw σ + w)
def fid (ci k : Nat) : Nat := ci * 100 + k
/-! ===== what an instruction asks for, and does ===== -/
def gI (σ : St) (ci k a : Nat) : Option Int32 := if sK σ a = ci + 1 then some (sI σ (fid ci k) a) else none
def gF (σ : St) (ci k a : Nat) : Option Nat := if sK σ a = ci + 1 then some (sF σ (fid ci k) a) else none
def pI (σ : St) (ci k a : Nat) (v : Int32) : Option St := if sK σ a = ci + 1 then some (wI σ (fid ci k) a v) else none
def pF (σ : St) (ci k a : Nat) (v : Nat) : Option St := if sK σ a = ci + 1 then some (wF σ (fid ci k) a v) else none
def inb (j : Int32) (n : Nat) : Bool := decide (¬ (j < 0 ∨ n ≤ j.toNatClampNeg))
def ldI (σ : St) (a : Nat) (j : Int32) : Option Int32 := if (sK σ a = 100 ∨ sK σ a = 150) ∧ inb j (sN σ a) = true then some (sA σ a j.toNatClampNeg) else none
def stI (σ : St) (a : Nat) (j v : Int32) : Option St := if sK σ a = 100 ∧ inb j (sN σ a) = true then some (wA σ a j.toNatClampNeg v) else none
def ldB (σ : St) (ti a : Nat) (j : Int32) : Option Int32 := if sK σ a = 100 + ti ∧ inb j (sN σ a) = true then some (sA σ a j.toNatClampNeg) else none
def stB (σ : St) (ti a : Nat) (j v : Int32) : Option St := if sK σ a = 100 + ti ∧ inb j (sN σ a) = true ∧ v.toInt8.toInt32 = v then some (wA σ a j.toNatClampNeg v) else none
def ldJ (σ : St) (a : Nat) (j : Int32) : Option Int64 := if sK σ a = 103 ∧ inb j (sN σ a) = true then some (sJ σ a j.toNatClampNeg) else none
def stJ (σ : St) (a : Nat) (j : Int32) (v : Int64) : Option St := if sK σ a = 103 ∧ inb j (sN σ a) = true then some (wJ σ a j.toNatClampNeg v) else none
def ldQ (σ : St) (ti a : Nat) (j : Int32) : Option Nat := if sK σ a = 100 + ti ∧ inb j (sN σ a) = true then some (sQ σ a j.toNatClampNeg) else none
def stQ (σ : St) (ti ci a : Nat) (j : Int32) (r : Nat) : Option St := if sK σ a = 100 + ti ∧ inb j (sN σ a) = true ∧ (r = 0 ∨ sK σ r = ci + 1) then some (wQ σ a j.toNatClampNeg r) else none
def aln (σ : St) (a : Nat) : Option Int32 := if (100 ≤ sK σ a ∧ sK σ a < 109) ∨ sK σ a = 150 then some (nI (sN σ a)) else none
def ckK (σ : St) (κ a : Nat) : Option Unit := if sK σ a = κ then some () else none
def ckP (b : Bool) : Option Unit := if b then some () else none
def nm {α β : Type} (e : α) (k : α → β) : β := k e
theorem ob {α β : Type} {o : Option α} {k : α → Option β} {r : β} (h : o.bind k = some r) : ∃ v, o = some v ∧ k v = some r := by
  cases o with
  | none => cases h
  | some v => exact ⟨v, rfl, h⟩
theorem nm_el {α β : Type} {e : α} {k : α → Option β} {r : β} (h : nm e k = some r) : ∃ v, v = e ∧ k v = some r := ⟨e, rfl, h⟩
theorem ckP_el {b : Bool} {u : Unit} (h : ckP b = some u) : b = true := by
  unfold ckP at h
  split at h
  · assumption
  · cases h
/-! ===== the world: the machine's heap holds σ ===== -/
/-- references: 0 is null, a the cell a - 1 -/
def rv (r : Nat) : Value := if r = 0 then .null else .ref (r - 1)
theorem rv_0 : rv 0 = .null := rfl
theorem rv_pos {r : Nat} (h : r ≠ 0) : rv r = .ref (r - 1) := if_neg h
theorem rv_cat (r : Nat) : (rv r).category = 1 := by unfold rv; split <;> rfl
theorem rv_isRef (r : Nat) : (rv r).isRef = true := by unfold rv; split <;> rfl
/-- the types of the fields of the class ci -/
def isR (t : FieldType) : Bool := match t with
  | .object _ => true
  | .array _ => true
  | _ => false
def clT : Nat → Nat → FieldType := fun ci => match ci with
  | 0 => tyJ0
  | 1 => tyJ4
  | 2 => tyJx00060
  | 3 => tyJx7c733
  | 4 => tyX0
  | 5 => tyX1
  | 6 => tyX2
  | 7 => tyX3
  | 8 => tyX4
  | 9 => tyX5
  | 10 => tyX6
  | 11 => tyX7
  | 12 => tyX8
  | 13 => tyX9
  | 14 => tyX10
  | 15 => tyX11
  | _ => tyX12
/-- the types of the rows -/
def arT : Nat → FieldType := fun ti => match ti with
  | 0 => .int
  | 1 => .byte
  | 2 => .boolean
  | 3 => .long
  | 4 => .object RX1
  | 5 => .object RX6
  | 6 => .object RX7
  | 7 => .object RX9
  | _ => .object RX10
def fval (σ : St) (ci a k : Nat) : Value := if isR (clT ci k) = true then rv (sF σ (fid ci k) a) else .int (sI σ (fid ci k) a)
def aval (σ : St) (ti a j : Nat) : Value := if ti < 3 then .int (sA σ a j) else if ti = 3 then .long (sJ σ a j) else rv (sQ σ a j)
abbrev Dt : Type := va_G × (Nat → ClassId)
def cyT (D : Dt) : List (ClassId × FieldType) := (List.range 9).map fun i => (D.2 i, arT i)
theorem cyT_at {D : Dt} {ti : Nat} (h : ti < 9) : (cyT D)[ti]? = some (D.2 ti, arT ti) := by
  unfold cyT
  rw [List.getElem?_map, List.getElem?_range h]
  rfl
def cOK (D : Dt) (U : State) (σ : St) (H : Heap) (a : Nat) : Prop :=
  (∀ (ci : Nat) (r : vw_C), sK σ a = ci + 1 → vwCl[ci]? = some r → t_OB (a - 1) (D.1.1 ci) r.2.2 (D.1.2 ci) H (fval σ ci a)) ∧
  (∀ ti : Nat, sK σ a = 100 + ti → ti < 9 → H[a - 1]? = some (arrV (D.2 ti) (sN σ a) (aval σ ti a))) ∧
  (sK σ a = 150 → ∃ cell : Cell, H[a - 1]? = some cell ∧ U.isArrayOf cell .int ∧ cell.vm ≠ .unknown ∧ (sN σ a ≤ cell.slots.size ∧ cell.slots.size.toInt32 = nI (sN σ a)) ∧ ∀ j, j < sN σ a → cell.slots[j]? = some (.int (sA σ a j)))
/-- what may be written: the world's cells but those of kind 150, and what is new -/
def Fr (σ : St) (q : Nat) : Prop := (sK σ (q + 1) ≠ 0 ∧ sK σ (q + 1) ≠ 150) ∨ sz σ ≤ q + 1
/-- exceptions that are none of others -/
def NCL : List (String × String) := [("java/lang/ArithmeticException", "java/lang/IllegalArgumentException"), ("java/lang/IllegalStateException", "java/util/NoSuchElementException"), ("java/lang/IllegalStateException", "java/lang/IllegalArgumentException"),
  ("java/util/NoSuchElementException", "java/lang/IllegalArgumentException"), ("java/lang/IndexOutOfBoundsException", "java/lang/IllegalArgumentException"), ("java/lang/ArithmeticException", "java/util/NoSuchElementException")]
def Sx (U : State) (H : Heap) (σ : St) : Prop :=
  va_Z RX11 "KNOWN_WORDS" "[I" (rv (sF σ 9001 0)) (Fr σ) U H ∧ va_Z RX5 "TENS" "[I" (rv (sF σ 9002 0)) (Fr σ) U H ∧ va_Z RJ0 "COMPACT_STRINGS" "Z" (.int 1) (Fr σ) U H ∧
  vx_Zq Bundle.tN "UNASSIGNED_STACK" Bundle.steD (Fr σ) U H ∧ vx_Zq Bundle.tN "SUPPRESSED_SENTINEL" Bundle.listD (Fr σ) U H ∧ va_Zq "jdk/internal/util/Preconditions" "SIOOBE_FORMATTER" "Ljava/util/function/BiFunction;" (Fr σ) U H ∧ ∀ q ∈ NCL, va_Nc q.1 q.2 U
def Wd (D : Dt) (U : State) (H : Heap) (σ : St) : Prop :=
  H.size + 1 = sz σ ∧ (sK σ 0 = 0 ∧ ∀ a, sz σ ≤ a → sK σ a = 0) ∧ va_K D.1 vwCl (cyT D) U ∧ (∀ a, cOK D U σ H a) ∧ Sx U H σ
theorem cOK.kept {D : Dt} {U : State} {σ σ1 : St} {H H1 : Heap} {a : Nat} (h : cOK D U σ H a) (hK : sK σ1 a = sK σ a) (hI : ∀ f, sI σ1 f a = sI σ f a) (hF : ∀ f, sF σ1 f a = sF σ f a) (hN : sN σ1 a = sN σ a)
    (hA : ∀ j, sA σ1 a j = sA σ a j) (hJ : ∀ j, sJ σ1 a j = sJ σ a j) (hQ : ∀ j, sQ σ1 a j = sQ σ a j) (hq : H1[a - 1]? = H[a - 1]?) : cOK D U σ1 H1 a := by
  obtain ⟨h1, h2, h3⟩ := h
  refine ⟨fun ci r k1 k2 => ((h1 ci r (by rw [← hK]; exact k1) k2).kept hq).to (fun k _ => by simp only [fval, hI, hF]), fun ti k1 k2 => ?_, fun k1 => ?_⟩
  · rw [hq, h2 ti (by rw [← hK]; exact k1) k2, hN]
    congr 2
    funext j
    simp only [aval, hA, hJ, hQ]
  · obtain ⟨cell, q1, q2, q3, q4, q5⟩ := h3 (by rw [← hK]; exact k1)
    exact ⟨cell, by rw [hq]; exact q1, q2, q3, by rw [hN]; exact q4, fun j hj => by rw [hA]; exact q5 j (by rw [← hN]; exact hj)⟩
theorem cOK.zero {D : Dt} {U : State} {σ : St} {H : Heap} {a : Nat} (h : sK σ a = 0) : cOK D U σ H a := ⟨fun ci r k1 _ => by rw [h] at k1; omega, fun ti k1 _ => by rw [h] at k1; omega, fun k1 => by rw [h] at k1; omega⟩
theorem cOK.moved {D : Dt} {u U : State} {σ : St} {H : Heap} {a : Nat} (hvm : u.vm.Alike U.vm) (h : cOK D u σ H a) : cOK D U σ H a := by
  obtain ⟨h1, h2, h3⟩ := h
  refine ⟨h1, h2, fun k1 => ?_⟩
  obtain ⟨cell, q1, q2, q3⟩ := h3 k1
  exact ⟨cell, q1, State.isArrayOf_alike hvm q2, q3⟩
theorem Sx.moved {u U : State} {H : Heap} {σ : St} (hvm : u.vm.Alike U.vm) (h : Sx u H σ) : Sx U H σ :=
  ⟨h.1.moved hvm, h.2.1.moved hvm, h.2.2.1.moved hvm, h.2.2.2.1.moved hvm, h.2.2.2.2.1.moved hvm, h.2.2.2.2.2.1.moved hvm, fun q hq => (h.2.2.2.2.2.2 q hq).moved hvm⟩
theorem Sx.kept {U : State} {H H1 : Heap} {σ σ1 : St} (h : Sx U H σ) (h1 : sF σ1 9001 0 = sF σ 9001 0) (h2 : sF σ1 9002 0 = sF σ 9002 0) (hF : ∀ q, Fr σ1 q → Fr σ q) (hq : ∀ a : Nat, a < H.size → ¬ Fr σ a → H1[a]? = H[a]?) : Sx U H1 σ1 := by
  obtain ⟨a1, a2, a3, a4, a5, a6, a7⟩ := h
  refine ⟨?_, ?_, (a3.kept hq).narrow hF, (a4.kept hq).narrow hF, (a5.kept hq).narrow hF, (a6.kept hq).narrow hF, a7⟩
  · rw [h1]; exact (a1.kept hq).narrow hF
  · rw [h2]; exact (a2.kept hq).narrow hF
theorem Wd.moved {D : Dt} {u U : State} {H : Heap} {σ : St} (hvm : u.vm.Alike U.vm) (h : Wd D u H σ) : Wd D U H σ :=
  ⟨h.1, h.2.1, h.2.2.1.moved hvm, fun a => (h.2.2.2.1 a).moved hvm, h.2.2.2.2.moved hvm⟩
/-! ===== the judgement: the machine at pc, with σ in its heap, comes to the method's end ===== -/
/-- a method: its code, its locals, its class, what it answers, its frames and locals' room, whether it is a constructor -/
abbrev Mt : Type := ByteArray × Nat × String × Option FieldType × Nat × Nat × Bool
/-- how a run ends: with an answer; by an exception; or as is said of it (and the method's own handlers) -/
abbrev Oc : Type := Option Value ⊕ (String ⊕ ((Dt → List Frame → Array Value → State → State → Prop) × List ExceptionTableEntry))
/-- a run of it: the launch, where it begins, where it ends, what it answers -/
abbrev Xt : Type := Launch × St × St × Oc
/-- a method's end: what it answers, and the world behind it -/
def Qn (D : Dt) (σ0 σf : St) (o : Option Value) : Array Value → State → Outcome → State → Prop := fun _ st oc t =>
  oc = .returned o ∧ Wd D t t.heap σf ∧ va_F (Fr σ0) st t ∧ ∀ q, Fr σf q → Fr σ0 q
/-- the heap has z cells -/
def wz (σ : St) (z : Nat) : St := (sK σ, sI σ, sF σ, sN σ, sA σ, sJ σ, sQ σ, z, sc σ, sw σ)
/-- one exception more was made -/
def th (σ : St) : St := (sK σ, sI σ, sF σ, sN σ, sA σ, sJ σ, sQ σ, sz σ, sc σ + 1, sw σ + 6)
/-- a method's end by an exception: its class, the world behind it -/
def XC9 (D : Dt) (σ0 σf : St) (E : String) : String → State → State → Prop := fun E' st t =>
  E' = E ∧ (∃ z, sz σf ≤ z ∧ Wd D t t.heap (wz σf z)) ∧ va_F (Fr σ0) st t ∧ ∀ q, Fr σf q → Fr σ0 q
/-- a method's end of which something is asked -/
def QnK (D : Dt) (σ0 : St) (K : St → Option Value → Prop) : Array Value → State → Outcome → State → Prop := fun _ st oc t =>
  ∃ σ1 o, K σ1 o ∧ oc = .returned o ∧ Wd D t t.heap σ1 ∧ va_F (Fr σ0) st t ∧ ∀ q, Fr σ1 q → Fr σ0 q
def QE (D : Dt) (X : Xt) (below : List Frame) (args : Array Value) (s : State) : State → Prop :=
  match X.2.2.2 with
  | .inl o => MQ below (Qn D X.2.1 X.2.2.1 o) args s (sc X.2.2.1 - sc X.2.1) (sw X.2.2.1 - sw X.2.1) (Fr X.2.1)
  | .inr (.inl E) => vx_MQ below (fun _ _ _ _ => False) (XC9 D X.2.1 X.2.2.1 E) args s (sc X.2.2.1 - sc X.2.1) (sw X.2.2.1 - sw X.2.1) (Fr X.2.1)
  | .inr (.inr K) => K.1 D below args s
theorem QE_K {D : Dt} {X : Xt} {below : List Frame} {args : Array Value} {s : State} {K : (Dt → List Frame → Array Value → State → State → Prop) × List ExceptionTableEntry} (h : X.2.2.2 = .inr (.inr K)) : QE D X below args s = K.1 D below args s := by
  unfold QE
  rw [h]
theorem QE_inl {D : Dt} {X : Xt} {below : List Frame} {args : Array Value} {s : State} {o : Option Value} (h : X.2.2.2 = .inl o) : QE D X below args s = MQ below (Qn D X.2.1 X.2.2.1 o) args s (sc X.2.2.1 - sc X.2.1) (sw X.2.2.1 - sw X.2.1) (Fr X.2.1) := by
  unfold QE
  rw [h]
theorem QE_inr {D : Dt} {X : Xt} {below : List Frame} {args : Array Value} {s : State} {E : String} (h : X.2.2.2 = .inr (.inl E)) : QE D X below args s = vx_MQ below (fun _ _ _ _ => False) (XC9 D X.2.1 X.2.2.1 E) args s (sc X.2.2.1 - sc X.2.1) (sw X.2.2.1 - sw X.2.1) (Fr X.2.1) := by
  unfold QE
  rw [h]
def Cx (M : Mt) (X : Xt) (p : Program) (e : Env) (R : Room) (s : State) (m : MethodId) (args : Array Value) (below : List Frame) (meth : Method) (c : Code) (Q : State → Prop) (D : Dt) : Prop :=
  p.tables.exec = Jvm.exec ∧ c.code = M.1 ∧ c.maxLocals = M.2.1 ∧ s.vm.findClass M.2.2.1 = some m.cls ∧ (∀ w ∈ TB, w.before args s = true) ∧ NW s ∧ meth.locks = false ∧ meth.sig.returnType = M.2.2.2.1 ∧
  (R.frames = M.2.2.2.2.1 ∧ R.locals = M.2.2.2.2.2.1 ∧ R.cells = sc X.2.2.1 - sc X.2.1 ∧ R.slots = sw X.2.2.1 - sw X.2.1) ∧ (M.2.2.2.2.2.2 = true → meth.name = "<init>") ∧
  Q = QE D X below args s ∧ (∀ E, X.2.2.2 = .inr (.inl E) → X.1.stackTraces = false ∧ ∀ x ∈ c.exceptionTable.toList, False) ∧ Sx s s.heap X.2.1 ∧ (∀ K, X.2.2.2 = .inr (.inr K) → X.1.stackTraces = false ∧ c.exceptionTable.toList = K.2)
def G (M : Mt) (X : Xt) (σ : St) (pc : Nat) (L : List (Nat × Value)) (st : List Value) : Prop :=
  (sc σ ≤ sc X.2.2.1 ∧ sw σ ≤ sw X.2.2.1) ∧ ∀ (p : Program) (e : Env) (R : Room) (s : State) (m : MethodId) (args : Array Value) (below : List Frame) (meth : Method) (c : Code) (Q : State → Prop) (D : Dt), Cx M X p e R s m args below meth c Q D →
    ∀ (H : Heap) (locs : List Loc) (k n : Nat) (ls : Array Slot), Wd D s H σ → va_S (Fr X.2.1) s.heap H locs → (∀ q, Fr σ q → Fr X.2.1 q) → sc X.2.1 + k = sc σ → sw X.2.1 + n = sw σ → lv_has ls c.maxLocals L →
      W p X.1 e R s m args below meth c H locs k n Q (F0 m pc ls st)
/-- the method's contract: from σ, with these arguments, it answers o and leaves σ1 -/
def Con (M : Mt) (y : MethodName) (l : Launch) (σ : St) (as : List Value) (σ1 : St) (o : Option Value) : Prop :=
  (sc σ ≤ sc σ1 ∧ sw σ ≤ sw σ1) ∧ ∀ D : Dt, Met l y (.code y M.1 M.2.1 M.2.2.2.1 :: TB) ({ frames := M.2.2.2.2.1, cells := sc σ1 - sc σ, slots := sw σ1 - sw σ, locals := M.2.2.2.2.2.1 }) (va_Pc as (fun U => Wd D U U.heap σ ∧ NW U))
    (Qn D σ σ1 o) (sc σ1 - sc σ) (sw σ1 - sw σ) (Fr σ)
/-- a contract, out of the walk of its body -/
theorem Con.of {l : Launch} {y : MethodName} {M : Mt} {σ σ1 : St} {as : List Value} {o : Option Value} (hy : plainFor y = true) (hown : y.cls = M.2.2.1) (hi : M.2.2.2.2.2.2 = true → y.name = "<init>") (hn : (lg_sl as).length ≤ M.2.1)
    (hw : G M (l, σ, σ1, .inl o) σ 0 (lv_args 0 as) []) : Con M y l σ as σ1 o := by
  refine ⟨hw.1, fun D => ?_⟩
  refine va_MetF (cc := M.1) (maxL := M.2.1) (ret := M.2.2.2.1) hy rfl ?_
  intro p e s m args below meth c s₁ B hml hv
  obtain ⟨rfl, hW, hNW⟩ := hv
  have hts := atoms_spec B.pre
  have hts2 : ∀ w ∈ TB, w.before as.toArray s = true := fun w h => hts w (List.mem_cons_of_mem _ h)
  have hl := lv_entry as (n := M.2.1) hn
  rw [lg_entry_eq]
  rw [← hml] at hl ⊢
  refine hw.2 p e _ s m as.toArray below meth c _ D ⟨B.exec, B.bytes, hml, hown ▸ findClass_of_methodNamed B.named, hts2, hNW, B.notSynchronized, B.returns, ⟨rfl, rfl, rfl, rfl⟩, fun h => (name_of_methodNamed B.named B.method).1.trans (hi h), rfl, (fun E h => by cases h), hW.2.2.2.2, (fun K h => by cases h)⟩ s.heap [] 0 0 _ hW va_S.rf (fun _ h => h) rfl rfl hl
def xo : (Option Value ⊕ String) → Oc
  | .inl o => .inl o
  | .inr E => .inr (.inl E)
theorem xo_K {o : Option Value ⊕ String} {K : (Dt → List Frame → Array Value → State → State → Prop) × List ExceptionTableEntry} (h : xo o = .inr (.inr K)) : False := by
  cases o <;> cases h
theorem xo_E {o : Option Value ⊕ String} {E : String} (h : xo o = .inr (.inl E)) : o = .inr E := by
  cases o with
  | inl _ => cases h
  | inr _ => cases h; rfl
/-- the contract of a method that may throw: as it ends in this run -/
def Qt (D : Dt) (σ0 σf : St) (o : Option Value ⊕ String) : Array Value → State → Outcome → State → Prop := match o with
  | .inl o => Qn D σ0 σf o
  | .inr _ => fun _ _ _ _ => False
def XCt (D : Dt) (σ0 σf : St) (o : Option Value ⊕ String) : String → State → State → Prop := match o with
  | .inl _ => fun _ _ _ => False
  | .inr E => XC9 D σ0 σf E
def ConT (M : Mt) (y : MethodName) (l : Launch) (σ : St) (as : List Value) (σ1 : St) (o : Option Value ⊕ String) : Prop :=
  (sc σ ≤ sc σ1 ∧ sw σ ≤ sw σ1) ∧ ∀ D : Dt, vx_Met l y (.code y M.1 M.2.1 M.2.2.2.1 :: TB) ({ frames := M.2.2.2.2.1, cells := sc σ1 - sc σ, slots := sw σ1 - sw σ, locals := M.2.2.2.2.2.1 }) (va_Pc as (fun U => Wd D U U.heap σ ∧ NW U))
    (Qt D σ σ1 o) (XCt D σ σ1 o) (sc σ1 - sc σ) (sw σ1 - sw σ) (Fr σ)
theorem ConT.of {l : Launch} {y : MethodName} {M : Mt} {σ σ1 : St} {as : List Value} {o : Option Value ⊕ String} (hst : l.stackTraces = false) (hy : plainName y.cls = true) (hown : y.cls = M.2.2.1) (hi : M.2.2.2.2.2.2 = true → y.name = "<init>") (hn : (lg_sl as).length ≤ M.2.1)
    (hw : G M (l, σ, σ1, xo o) σ 0 (lv_args 0 as) []) : ConT M y l σ as σ1 o := by
  refine ⟨hw.1, fun D => ?_⟩
  refine vx_ofW (cc := M.1) (maxL := M.2.1) (ret := M.2.2.2.1) hy rfl ?_
  intro p e s m args below meth c s₁ B hml hex hv
  obtain ⟨rfl, hW, hNW⟩ := hv
  have hts := atoms_spec B.pre
  have hts2 : ∀ w ∈ TB, w.before as.toArray s = true := fun w h => hts w (List.mem_cons_of_mem _ h)
  have hl := lv_entry as (n := M.2.1) hn
  rw [lg_entry_eq]
  rw [← hml] at hl ⊢
  have h9 := hw.2 p e (headSpec (.code y M.1 M.2.1 M.2.2.2.1 :: TB) ({ frames := M.2.2.2.2.1, cells := sc σ1 - sc σ, slots := sw σ1 - sw σ, locals := M.2.2.2.2.2.1 })).room s m as.toArray below meth c _ D ⟨B.exec, B.bytes, hml, hown ▸ findClass_of_methodNamed B.named, hts2, hNW, B.notSynchronized, B.returns, ⟨rfl, rfl, rfl, rfl⟩, fun h => (name_of_methodNamed B.named B.method).1.trans (hi h), rfl, (fun E h => ⟨hst, hex⟩), hW.2.2.2.2, (fun K h => (xo_K h).elim)⟩ s.heap [] 0 0 _ hW va_S.rf (fun _ h => h) rfl rfl hl
  cases o with
  | inl o => exact vx_ret h9
  | inr E => exact h9
