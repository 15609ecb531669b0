/-! ===== the start ===== -/
theorem hc0 : vwCl[0]? = some (RJ0, TJ0, 4) := rfl
theorem hin0 : ∀ w ∈ u_ws RJ0 TJ0 4, w ∈ TB := TB_all [754, 756, 758, 760] (by decide +kernel) (by decide +kernel)
theorem sti0 : Cond.instantiable RJ0 4 ∈ TB := TB_all [632] (ws := [Cond.instantiable RJ0 4]) (by decide +kernel) (by decide +kernel) _ List.mem_cons_self
theorem sti1 : Cond.instantiable RJ4 4 ∈ TB := TB_all [95] (ws := [Cond.instantiable RJ4 4]) (by decide +kernel) (by decide +kernel) _ List.mem_cons_self
theorem hc2 : vwCl[2]? = some (RJx00060, TJx00060, 6) := rfl
theorem hin2 : ∀ w ∈ u_ws RJx00060 TJx00060 6, w ∈ TB := TB_all [792, 793, 794, 795, 796, 807] (by decide +kernel) (by decide +kernel)
theorem sti2 : Cond.instantiable RJx00060 6 ∈ TB := TB_all [787] (ws := [Cond.instantiable RJx00060 6]) (by decide +kernel) (by decide +kernel) _ List.mem_cons_self
theorem hc3 : vwCl[3]? = some (RJx7c733, TJx7c733, 6) := rfl
theorem hin3 : ∀ w ∈ u_ws RJx7c733 TJx7c733 6, w ∈ TB := TB_all [767, 768, 769, 770, 771, 772] (by decide +kernel) (by decide +kernel)
theorem sti3 : Cond.instantiable RJx7c733 6 ∈ TB := TB_all [477] (ws := [Cond.instantiable RJx7c733 6]) (by decide +kernel) (by decide +kernel) _ List.mem_cons_self
theorem sti4 : Cond.instantiable RX0 4 ∈ TB := TB_all [327] (ws := [Cond.instantiable RX0 4]) (by decide +kernel) (by decide +kernel) _ List.mem_cons_self
theorem sti5 : Cond.instantiable RX1 3 ∈ TB := TB_all [45] (ws := [Cond.instantiable RX1 3]) (by decide +kernel) (by decide +kernel) _ List.mem_cons_self
theorem sti6 : Cond.instantiable RX2 9 ∈ TB := TB_all [282] (ws := [Cond.instantiable RX2 9]) (by decide +kernel) (by decide +kernel) _ List.mem_cons_self
theorem sti7 : Cond.instantiable RX3 2 ∈ TB := TB_all [51] (ws := [Cond.instantiable RX3 2]) (by decide +kernel) (by decide +kernel) _ List.mem_cons_self
theorem sti8 : Cond.instantiable RX4 19 ∈ TB := TB_all [213] (ws := [Cond.instantiable RX4 19]) (by decide +kernel) (by decide +kernel) _ List.mem_cons_self
theorem sti9 : Cond.instantiable RX5 17 ∈ TB := TB_all [150] (ws := [Cond.instantiable RX5 17]) (by decide +kernel) (by decide +kernel) _ List.mem_cons_self
theorem sti10 : Cond.instantiable RX6 1 ∈ TB := TB_all [351] (ws := [Cond.instantiable RX6 1]) (by decide +kernel) (by decide +kernel) _ List.mem_cons_self
theorem sti11 : Cond.instantiable RX7 2 ∈ TB := TB_all [321] (ws := [Cond.instantiable RX7 2]) (by decide +kernel) (by decide +kernel) _ List.mem_cons_self
theorem sti12 : Cond.instantiable RX8 3 ∈ TB := TB_all [128] (ws := [Cond.instantiable RX8 3]) (by decide +kernel) (by decide +kernel) _ List.mem_cons_self
theorem sti13 : Cond.instantiable RX9 5 ∈ TB := TB_all [1421] (ws := [Cond.instantiable RX9 5]) (by decide +kernel) (by decide +kernel) _ List.mem_cons_self
theorem sti14 : Cond.instantiable RX10 4 ∈ TB := TB_all [1553] (ws := [Cond.instantiable RX10 4]) (by decide +kernel) (by decide +kernel) _ List.mem_cons_self
theorem sti15 : Cond.instantiable RX11 19 ∈ TB := TB_all [37] (ws := [Cond.instantiable RX11 19]) (by decide +kernel) (by decide +kernel) _ List.mem_cons_self
theorem sti16 : Cond.instantiable RX12 83 ∈ TB := TB_all [1897] (ws := [Cond.instantiable RX12 83]) (by decide +kernel) (by decide +kernel) _ List.mem_cons_self
theorem stl_KNOWN_WORDS : Cond.laysStatic "ExactlySaid" "KNOWN_WORDS" "[I" ∈ lw_tbl ∧ Cond.initialized "ExactlySaid" ∈ lw_tbl := ⟨List.mem_append_right _ (List.mem_of_getElem? (i := 1412) (by decide +kernel)), List.mem_append_right _ (List.mem_of_getElem? (i := 1) (by decide +kernel))⟩
theorem stl_TENS : Cond.laysStatic "ExactlySaid$Reckoner" "TENS" "[I" ∈ lw_tbl ∧ Cond.initialized "ExactlySaid$Reckoner" ∈ lw_tbl := ⟨List.mem_append_right _ (List.mem_of_getElem? (i := 953) (by decide +kernel)), List.mem_append_right _ (List.mem_of_getElem? (i := 9) (by decide +kernel))⟩
theorem stl_COMPACT_STRINGS : Cond.laysStatic "java/lang/String" "COMPACT_STRINGS" "Z" ∈ lw_tbl ∧ Cond.initialized "java/lang/String" ∈ lw_tbl := ⟨List.mem_append_right _ (List.mem_of_getElem? (i := 104) (by decide +kernel)), List.mem_append_right _ (List.mem_of_getElem? (i := 6) (by decide +kernel))⟩
theorem stl_UNASSIGNED_STACK : Cond.laysStatic "java/lang/Throwable" "UNASSIGNED_STACK" "[Ljava/lang/StackTraceElement;" ∈ lw_tbl ∧ Cond.initialized "java/lang/Throwable" ∈ lw_tbl := ⟨List.mem_append_right _ (List.mem_of_getElem? (i := 690) (by decide +kernel)), List.mem_append_right _ (List.mem_of_getElem? (i := 17) (by decide +kernel))⟩
theorem stl_SUPPRESSED_SENTINEL : Cond.laysStatic "java/lang/Throwable" "SUPPRESSED_SENTINEL" "Ljava/util/List;" ∈ lw_tbl ∧ Cond.initialized "java/lang/Throwable" ∈ lw_tbl := ⟨List.mem_append_right _ (List.mem_of_getElem? (i := 692) (by decide +kernel)), List.mem_append_right _ (List.mem_of_getElem? (i := 17) (by decide +kernel))⟩
theorem stl_SIOOBE_FORMATTER : Cond.laysStatic "jdk/internal/util/Preconditions" "SIOOBE_FORMATTER" "Ljava/util/function/BiFunction;" ∈ lw_tbl ∧ Cond.initialized "jdk/internal/util/Preconditions" ∈ lw_tbl := ⟨List.mem_append_right _ (List.mem_of_getElem? (i := 546) (by decide +kernel)), List.mem_append_right _ (List.mem_of_getElem? (i := 31) (by decide +kernel))⟩
theorem sta_int : Cond.arrayClass .int ∈ TB := TB_all [66] (ws := [Cond.arrayClass .int]) (by decide +kernel) (by decide +kernel) _ List.mem_cons_self
theorem sta_byte : Cond.arrayClass .byte ∈ TB := TB_all [126] (ws := [Cond.arrayClass .byte]) (by decide +kernel) (by decide +kernel) _ List.mem_cons_self
theorem sta_boolean : Cond.arrayClass .boolean ∈ TB := TB_all [2217] (ws := [Cond.arrayClass .boolean]) (by decide +kernel) (by decide +kernel) _ List.mem_cons_self
theorem sta_long : Cond.arrayClass .long ∈ TB := TB_all [2776] (ws := [Cond.arrayClass .long]) (by decide +kernel) (by decide +kernel) _ List.mem_cons_self
theorem sto_4 : Cond.arrayOver (.object RX1) ∈ TN := TN_of (i := 93) (by decide +kernel) rfl
theorem sto_5 : Cond.arrayOver (.object RX6) ∈ TN := TN_of (i := 350) (by decide +kernel) rfl
theorem sto_6 : Cond.arrayOver (.object RX7) ∈ TN := TN_of (i := 148) (by decide +kernel) rfl
theorem sto_7 : Cond.arrayOver (.object RX9) ∈ TN := TN_of (i := 289) (by decide +kernel) rfl
theorem sto_8 : Cond.arrayOver (.object RX10) ∈ TN := TN_of (i := 329) (by decide +kernel) rfl
def kwf (j : Nat) : Int32 := ([5188, 8842, 3436200, 62949, 279252, 802, 9616, 10786, 3065, 9734, 9528] : List Int32).getD j 0
def tnf (j : Nat) : Int32 := ([1, 10, 100, 1000, 10000, 100000, 1000000, 10000000, 100000000, 1000000000] : List Int32).getD j 0
/-- the start's St: the script and two tables, nothing else -/
def st0 (z b kw tn L : Nat) (xs : Nat → Int32) : St :=
  (fun a => if a = b ∨ a = kw ∨ a = tn then 150 else 0, fun _ _ => 0, fun f a => if f = 9001 ∧ a = 0 then kw else if f = 9002 ∧ a = 0 then tn else 0,
   fun a => if a = b then L else if a = kw then 11 else if a = tn then 10 else 0, fun a j => if a = b then xs j else if a = kw then kwf j else if a = tn then tnf j else 0, fun _ _ => 0, fun _ _ => 0, z, 0, 0)
theorem nst {l : Launch} (h : l.flags = flags0) : l.stackTraces = false := by
  unfold Launch.stackTraces
  rw [h]
  decide +kernel
theorem st_arr {s : State} {ty : FieldType} {args : Array Value} (h : (Cond.arrayClass ty).before args s = true) : ∃ c, ArrOfT s c ty ∧ s.vm.findClass ("[" ++ ty.toString) = some c := by
  obtain ⟨c, k, comp, h1, h2, h3⟩ := Cond.arrayClass_spec h
  exact ⟨c, fun n z => ⟨fun k h => (by cases h), k, h2, comp, h3⟩, h1⟩
theorem st_aro {s : State} {C : String} {args : Array Value} (h : (Cond.arrayOver (.object C)).before args s = true) : ∃ c, ArrOfT s c (.object C) ∧ va_RA s c (.object C) := by
  obtain ⟨comp, c, k, h1, h2, h3, h4, h5⟩ := Cond.arrayOver_spec h
  exact ⟨c, fun n z => ⟨fun k h => (by cases h), k, h3, comp, h4⟩, k, comp, h3, h4, h1, h5⟩
theorem selp2 {C : String} {y z : MethodName} {s : State} {args : Array Value} (hz : z.cls = y.cls) (hy : y.cls ≠ "java/lang/invoke/MethodHandle" ∧ y.cls ≠ "java/lang/invoke/VarHandle")
    (hs : (Cond.selects C z z).before args s = true) (hpriv : (Cond.privateMethod y).before args s = true) (hinst : (Cond.instanceMethod y).before args s = true) : (Cond.selects C y y).before args s = true := by
  obtain ⟨c, r, mz, h1, h2, h3, h4, mk9, h5, h6⟩ := Cond.selects_spec hs
  obtain ⟨mk, methM, hnamed, hmethM, -, -⟩ := Cond.instanceMethod_spec hinst
  have hfound : s.methodFound? y.cls y.name y.desc = some mk := State.methodFound?_of_named hnamed hy
  have hsel : selectMethod {} s.vm c mk = .method mk := selectMethod_private hmethM (Cond.privateMethod_at hpriv mk methM hnamed hmethM)
  have hcl : mk.cls = mz.cls := Option.some.inj ((findClass_of_methodNamed hnamed).symm.trans (hz ▸ findClass_of_methodNamed h3))
  simp [Cond.before, Cond.holds, Cond.value, h1, hfound, hnamed, hsel, hcl, h5, h6]
theorem nsW_nw {w : Cond} {s : State} {args : Array Value} (hn : nsW w = true) (h : w.before args s = true) : va_Nw w s := by
  unfold nsW at hn
  split at hn
  · exact va_tabs rfl rfl h
  · exact va_tabs rfl rfl h
  · exact va_tabs rfl rfl h
  · exact va_tabs rfl rfl h
  · exact h
  · cases hn
/-- the law's start, out of its meaning -/
theorem start_of (hsem : ∀ (z b kw tn L : Nat) (xs : Nat → Int32), L ≤ 3072 → (0 < b ∧ b < z) → (0 < kw ∧ kw < z) → (0 < tn ∧ tn < z) → b ≠ kw → b ≠ tn → kw ≠ tn → pL_law 603072 7207018 (st0 z b kw tn L xs) b)
    {p : Program} {e : Env} {s : State} {m : MethodId} {below : List Frame} {meth : Method} {c : Code} (l : Launch) (hflags : l.flags = flags0) {b L : Nat} {xs : Nat → Int32} (hL : L ≤ 3072) (C0 : lw_At p s m meth c b L xs) : W p l e room_1 s m #[Value.ref b] below meth c s.heap [] 0 0 (lw_Z below #[Value.ref b] s) (entryFrame m ([Value.ref b] : List Value).toArray 9) := by
  obtain ⟨hx, hb, hr, hml, hown, hts, hX, hbl, hlocks, hgv⟩ := id C0
  have hgv2 := flat_of_before _ hgv
  have hts2 : ∀ w ∈ TB, w.before #[Value.ref b] s = true := by
    intro w hw
    rcases List.mem_append.mp (List.mem_filter.mp hw).1 with h | h
    · have hp : ∀ y : MethodName, y = ⟨"java/lang/AbstractStringBuilder", "ensureCapacityInternal", "(I)V"⟩ ∨ y = ⟨"java/lang/AbstractStringBuilder", "newCapacity", "(I)I"⟩ → (Cond.selects "java/lang/StringBuilder" y y).before #[Value.ref b] s = true := by
        intro y hy
        have hpl : (y.cls ≠ "java/lang/invoke/MethodHandle" ∧ y.cls ≠ "java/lang/invoke/VarHandle") := by rcases hy with rfl | rfl <;> decide
        refine selp2 (z := ⟨"java/lang/AbstractStringBuilder", "isLatin1", "()Z"⟩) (by rcases hy with rfl | rfl <;> rfl) hpl (hts _ (by decide +kernel)) (hts _ ?_) (hts _ ?_)
        · rcases hy with rfl | rfl <;> decide +kernel
        · rcases hy with rfl | rfl <;> decide +kernel
      simp only [lw_ex, List.mem_cons, List.not_mem_nil, or_false] at h
      rcases h with rfl | rfl
      · exact hp _ (Or.inl rfl)
      · exact hp _ (Or.inr rfl)
    · exact hts _ h
  have hNW : NW s := fun w hw => nsW_nw (List.mem_filter.mp hw).2 (hts w (List.mem_append_right _ (List.mem_filter.mp hw).1))
  have hst := nst hflags
  -- classes
  have hcl : ∀ k : Nat, ∃ x : ClassId × (Nat → Nat), ∀ q : vw_C, vwCl[k]? = some q → u_Kn s q.1 q.2.1 q.2.2 x.1 x.2 := by
    intro k
    match k with
    | 0 =>
      obtain ⟨a1, a2, a3⟩ := u_known hts2 hin0 (hts2 _ sti0)
      exact ⟨(a1, a2), fun q hq => by rw [hc0] at hq; cases hq; exact a3⟩
    | 1 =>
      obtain ⟨a1, a2, a3⟩ := u_known hts2 hin1 (hts2 _ sti1)
      exact ⟨(a1, a2), fun q hq => by rw [hc1] at hq; cases hq; exact a3⟩
    | 2 =>
      obtain ⟨a1, a2, a3⟩ := u_known hts2 hin2 (hts2 _ sti2)
      exact ⟨(a1, a2), fun q hq => by rw [hc2] at hq; cases hq; exact a3⟩
    | 3 =>
      obtain ⟨a1, a2, a3⟩ := u_known hts2 hin3 (hts2 _ sti3)
      exact ⟨(a1, a2), fun q hq => by rw [hc3] at hq; cases hq; exact a3⟩
    | 4 =>
      obtain ⟨a1, a2, a3⟩ := u_known hts2 hin4 (hts2 _ sti4)
      exact ⟨(a1, a2), fun q hq => by rw [hc4] at hq; cases hq; exact a3⟩
    | 5 =>
      obtain ⟨a1, a2, a3⟩ := u_known hts2 hin5 (hts2 _ sti5)
      exact ⟨(a1, a2), fun q hq => by rw [hc5] at hq; cases hq; exact a3⟩
    | 6 =>
      obtain ⟨a1, a2, a3⟩ := u_known hts2 hin6 (hts2 _ sti6)
      exact ⟨(a1, a2), fun q hq => by rw [hc6] at hq; cases hq; exact a3⟩
    | 7 =>
      obtain ⟨a1, a2, a3⟩ := u_known hts2 hin7 (hts2 _ sti7)
      exact ⟨(a1, a2), fun q hq => by rw [hc7] at hq; cases hq; exact a3⟩
    | 8 =>
      obtain ⟨a1, a2, a3⟩ := u_known hts2 hin8 (hts2 _ sti8)
      exact ⟨(a1, a2), fun q hq => by rw [hc8] at hq; cases hq; exact a3⟩
    | 9 =>
      obtain ⟨a1, a2, a3⟩ := u_known hts2 hin9 (hts2 _ sti9)
      exact ⟨(a1, a2), fun q hq => by rw [hc9] at hq; cases hq; exact a3⟩
    | 10 =>
      obtain ⟨a1, a2, a3⟩ := u_known hts2 hin10 (hts2 _ sti10)
      exact ⟨(a1, a2), fun q hq => by rw [hc10] at hq; cases hq; exact a3⟩
    | 11 =>
      obtain ⟨a1, a2, a3⟩ := u_known hts2 hin11 (hts2 _ sti11)
      exact ⟨(a1, a2), fun q hq => by rw [hc11] at hq; cases hq; exact a3⟩
    | 12 =>
      obtain ⟨a1, a2, a3⟩ := u_known hts2 hin12 (hts2 _ sti12)
      exact ⟨(a1, a2), fun q hq => by rw [hc12] at hq; cases hq; exact a3⟩
    | 13 =>
      obtain ⟨a1, a2, a3⟩ := u_known hts2 hin13 (hts2 _ sti13)
      exact ⟨(a1, a2), fun q hq => by rw [hc13] at hq; cases hq; exact a3⟩
    | 14 =>
      obtain ⟨a1, a2, a3⟩ := u_known hts2 hin14 (hts2 _ sti14)
      exact ⟨(a1, a2), fun q hq => by rw [hc14] at hq; cases hq; exact a3⟩
    | 15 =>
      obtain ⟨a1, a2, a3⟩ := u_known hts2 hin15 (hts2 _ sti15)
      exact ⟨(a1, a2), fun q hq => by rw [hc15] at hq; cases hq; exact a3⟩
    | 16 =>
      obtain ⟨a1, a2, a3⟩ := u_known hts2 hin16 (hts2 _ sti16)
      exact ⟨(a1, a2), fun q hq => by rw [hc16] at hq; cases hq; exact a3⟩
    | k + 17 => exact ⟨(0, fun _ => 0), fun q hq => by cases hq⟩
  have har : ∀ k : Nat, ∃ x : ClassId, k < 9 → ArrOfT s x (arT k) ∧ va_RA s x (arT k) := by
    intro k
    match k with
    | 0 => obtain ⟨a1, a2, a3⟩ := st_arr (hts2 _ sta_int); exact ⟨a1, fun _ => ⟨a2, a3⟩⟩
    | 1 => obtain ⟨a1, a2, a3⟩ := st_arr (hts2 _ sta_byte); exact ⟨a1, fun _ => ⟨a2, a3⟩⟩
    | 2 => obtain ⟨a1, a2, a3⟩ := st_arr (hts2 _ sta_boolean); exact ⟨a1, fun _ => ⟨a2, a3⟩⟩
    | 3 => obtain ⟨a1, a2, a3⟩ := st_arr (hts2 _ sta_long); exact ⟨a1, fun _ => ⟨a2, a3⟩⟩
    | 4 => obtain ⟨a1, a2, a3⟩ := st_aro (args := #[]) (hNW _ sto_4); exact ⟨a1, fun _ => ⟨a2, a3⟩⟩
    | 5 => obtain ⟨a1, a2, a3⟩ := st_aro (args := #[]) (hNW _ sto_5); exact ⟨a1, fun _ => ⟨a2, a3⟩⟩
    | 6 => obtain ⟨a1, a2, a3⟩ := st_aro (args := #[]) (hNW _ sto_6); exact ⟨a1, fun _ => ⟨a2, a3⟩⟩
    | 7 => obtain ⟨a1, a2, a3⟩ := st_aro (args := #[]) (hNW _ sto_7); exact ⟨a1, fun _ => ⟨a2, a3⟩⟩
    | 8 => obtain ⟨a1, a2, a3⟩ := st_aro (args := #[]) (hNW _ sto_8); exact ⟨a1, fun _ => ⟨a2, a3⟩⟩
    | k + 9 => exact ⟨0, fun h => absurd h (by omega)⟩
  let D : Dt := ((fun k => (Classical.choose (hcl k)).1, fun k => (Classical.choose (hcl k)).2), fun k => Classical.choose (har k))
  have hK : va_K D.1 vwCl (cyT D) s := by
    refine ⟨fun k q hq => Classical.choose_spec (hcl k) q hq, fun k q hq => ?_⟩
    have hk : k < 9 := by
      have := (List.getElem?_eq_some_iff.mp hq).1
      simpa [cyT] using this
    rw [cyT_at hk] at hq
    cases hq
    exact Classical.choose_spec (har k) hk
  -- tables
  have hnA : ∀ a : Nat, a < s.heap.size → ¬ (fun q : Nat => s.heap.size ≤ q) a := fun a h => Nat.not_le.mpr h
  have hkw := va_Tof (args := #[Value.ref b]) (s := s) (tm := .static "ExactlySaid" "KNOWN_WORDS" "[I") (ty := .int) (N := 11) (f := fun j => .int (kwf j)) (by decide) (hgv2 _ (by decide +kernel)) (va_eqt (hgv2 _ (by decide +kernel))) (fun j hj => by
    have h9 : j = 0 ∨ j = 1 ∨ j = 2 ∨ j = 3 ∨ j = 4 ∨ j = 5 ∨ j = 6 ∨ j = 7 ∨ j = 8 ∨ j = 9 ∨ j = 10 := by omega
    rcases h9 with rfl | rfl | rfl | rfl | rfl | rfl | rfl | rfl | rfl | rfl | rfl <;> exact va_eqt (hgv2 _ (by decide +kernel))) hnA
  have htn := va_Tof (args := #[Value.ref b]) (s := s) (tm := .static "ExactlySaid$Reckoner" "TENS" "[I") (ty := .int) (N := 10) (f := fun j => .int (tnf j)) (by decide) (hgv2 _ (by decide +kernel)) (va_eqt (hgv2 _ (by decide +kernel))) (fun j hj => by
    have h9 : j = 0 ∨ j = 1 ∨ j = 2 ∨ j = 3 ∨ j = 4 ∨ j = 5 ∨ j = 6 ∨ j = 7 ∨ j = 8 ∨ j = 9 := by omega
    rcases h9 with rfl | rfl | rfl | rfl | rfl | rfl | rfl | rfl | rfl | rfl <;> exact va_eqt (hgv2 _ (by decide +kernel))) hnA
  obtain ⟨kw, ekw, hkw⟩ := hkw
  obtain ⟨tn, etn, htn⟩ := htn
  obtain ⟨ck, k1, k2, k3, k4, k5, k6, -⟩ := hkw
  obtain ⟨ct, t1, t2, t3, t4, t5, t6, -⟩ := htn
  have hkl := (Array.getElem?_eq_some_iff.mp k1).1
  have htl := (Array.getElem?_eq_some_iff.mp t1).1
  have hne : kw ≠ tn := by
    intro h
    rw [h, t1] at k1
    cases k1
    rw [t5] at k5
    exact absurd k5 (by decide)
  have harg : (Term.arg 0).eval #[Value.ref b] s none [] s = some (.ref b) := rfl
  have hbk : b ≠ kw := by
    intro h
    have h1 : (Cond.not (.eq (.arg 0) (.static "ExactlySaid" "KNOWN_WORDS" "[I"))).before #[Value.ref b] s = true := hgv2 _ (by decide +kernel)
    rw [← h] at ekw
    simp [Cond.before, Cond.holds, Cond.value, harg, ekw] at h1
  have hbt : b ≠ tn := by
    intro h
    have h1 : (Cond.not (.eq (.arg 0) (.static "ExactlySaid$Reckoner" "TENS" "[I"))).before #[Value.ref b] s = true := hgv2 _ (by decide +kernel)
    rw [← h] at etn
    simp [Cond.before, Cond.holds, Cond.value, harg, etn] at h1
  have hsem9 := hsem (s.heap.size + 1) (b + 1) (kw + 1) (tn + 1) L xs hL (by omega) (by omega) (by omega) (by omega) (by omega) (by omega)
  generalize hσ : st0 (s.heap.size + 1) (b + 1) (kw + 1) (tn + 1) L xs = σ at hsem9
  have eK : ∀ a, sK σ a = if a = b + 1 ∨ a = kw + 1 ∨ a = tn + 1 then 150 else 0 := fun a => by rw [← hσ]; rfl
  have eF1 : sF σ 9001 0 = kw + 1 := by rw [← hσ]; rfl
  have eF2 : sF σ 9002 0 = tn + 1 := by rw [← hσ]; rfl
  have eN : ∀ a, sN σ a = if a = b + 1 then L else if a = kw + 1 then 11 else if a = tn + 1 then 10 else 0 := fun a => by rw [← hσ]; rfl
  have eA : ∀ a j, sA σ a j = if a = b + 1 then xs j else if a = kw + 1 then kwf j else if a = tn + 1 then tnf j else 0 := fun a j => by rw [← hσ]; rfl
  have ez : sz σ = s.heap.size + 1 := by rw [← hσ]; rfl
  have ec : sc σ = 0 ∧ sw σ = 0 := by rw [← hσ]; exact ⟨rfl, rfl⟩
  have hFr : ∀ q, Fr σ q → sz σ ≤ q + 1 := by
    intro q h
    rcases h with ⟨h1, h2⟩ | h
    · rw [eK] at h1 h2
      by_cases h9 : q + 1 = b + 1 ∨ q + 1 = kw + 1 ∨ q + 1 = tn + 1
      · rw [if_pos h9] at h2; exact absurd rfl h2
      · rw [if_neg h9] at h1; exact absurd rfl h1
    · exact h
  have hnF : ∀ a : Nat, a < s.heap.size → ¬ Fr σ a := fun a h h2 => by have := hFr a h2; omega
  have hSx : Sx s s.heap σ := by
    refine ⟨?_, ?_, ?_, ?_, ?_, ?_, ?_⟩
    · rw [eF1]; exact va_Zof (hts _ stl_KNOWN_WORDS.1) (hts _ stl_KNOWN_WORDS.2) ekw hnF
    · rw [eF2]; exact va_Zof (hts _ stl_TENS.1) (hts _ stl_TENS.2) etn hnF
    · exact va_Zof (hts _ stl_COMPACT_STRINGS.1) (hts _ stl_COMPACT_STRINGS.2) (va_eqi (hgv2 _ (by decide +kernel))) hnF
    · exact vx_Zqof (hts _ stl_UNASSIGNED_STACK.1) (hts _ stl_UNASSIGNED_STACK.2) (hgv2 _ (by decide +kernel)) hnF
    · exact vx_Zqof (hts _ stl_SUPPRESSED_SENTINEL.1) (hts _ stl_SUPPRESSED_SENTINEL.2) (hgv2 _ (by decide +kernel)) hnF
    · exact va_Zqof (hts _ stl_SIOOBE_FORMATTER.1) (hts _ stl_SIOOBE_FORMATTER.2) (hgv2 _ (by decide +kernel)) hnF
    · intro q hq
      simp only [NCL, List.mem_cons, List.not_mem_nil, or_false] at hq
      rcases hq with rfl | rfl | rfl | rfl | rfl | rfl <;> exact va_Nc.of (args := #[Value.ref b]) (hgv2 _ (by decide +kernel))
  obtain ⟨scr, x1, x2, x3, x4, x5⟩ := hX
  have hWd : Wd D s s.heap σ := by
    refine ⟨ez.symm, ⟨?_, fun a ha => ?_⟩, hK, fun a => ?_, hSx⟩
    · rw [eK, if_neg (by omega)]
    · rw [eK, if_neg (by rw [ez] at ha; omega)]
    · refine ⟨fun ci r h1 h2 => ?_, fun ti h1 h2 => ?_, fun h1 => ?_⟩
      · have := cl_lt h2
        rw [eK] at h1
        split at h1 <;> omega
      · rw [eK] at h1
        split at h1 <;> omega
      · rw [eK] at h1
        by_cases hb9 : a = b + 1
        · subst hb9
          refine ⟨scr, x1, x2, x3, ?_, fun j hj => ?_⟩
          · rw [eN, if_pos rfl, x4]; exact ⟨Nat.le_refl _, rfl⟩
          · rw [eN, if_pos rfl] at hj
            rw [eA, if_pos rfl]; exact x5 j hj
        · by_cases hk9 : a = kw + 1
          · subst hk9
            refine ⟨ck, k1, k2, k3, ?_, fun j hj => ?_⟩
            · rw [eN, if_neg hb9, if_pos rfl]; exact ⟨k4, k5⟩
            · rw [eN, if_neg hb9, if_pos rfl] at hj
              rw [eA, if_neg hb9, if_pos rfl]; exact k6 j hj
          · by_cases ht9 : a = tn + 1
            · subst ht9
              refine ⟨ct, t1, t2, t3, ?_, fun j hj => ?_⟩
              · rw [eN, if_neg hb9, if_neg hk9, if_pos rfl]; exact ⟨t4, t5⟩
              · rw [eN, if_neg hb9, if_neg hk9, if_pos rfl] at hj
                rw [eA, if_neg hb9, if_neg hk9, if_pos rfl]; exact t6 j hj
            · rw [if_neg (by omega)] at h1; omega
  -- the walk
  have hl := lv_entry ([.ref b]) (n := 9) (Nat.le_of_ble_eq_true rfl)
  rw [lg_entry_eq]
  generalize (lg_sl ([.ref b]) ++ List.replicate (9 - (lg_sl ([.ref b])).length) Slot.unset).toArray = ls at hl ⊢
  have hl : lv_has ls 9 [(0, rv (b + 1))] := hl
  let σF : St := (sK σ, sI σ, sF σ, sN σ, sA σ, sJ σ, sQ σ, sz σ, 603072, 7207018)
  let X : Xt := (l, σ, σF, .inr (.inr (KL b (sz σ), c.exceptionTable.toList)))
  have hLH : LH X b c.exceptionTable.toList 603072 7207018 := ⟨hst, rfl, hFr, ⟨rfl, rfl⟩, by show 603072 - sc σ = 603072; rw [ec.1], by show 7207018 - sw σ = 7207018; rw [ec.2]⟩
  have hG := bL_law hLH hsem9
  have hw := hG.2 p e room_1 s m #[Value.ref b] below meth c _ D ⟨hx, hb, hml, hown, hts2, hNW, hlocks, hr, ⟨rfl, rfl, by show 603072 = 603072 - sc σ; rw [ec.1], by show 7207018 = 7207018 - sw σ; rw [ec.2]⟩, (fun h => absurd (show false = true from h) (by decide)), rfl, (fun E h => by cases h), hSx, (fun K h => by cases h; exact ⟨hst, rfl⟩)⟩ s.heap [] 0 0 ls hWd va_S.rf (fun _ h => h) (by show sc σ + 0 = sc σ; rfl) (by show sw σ + 0 = sw σ; rfl) (by rw [hml]; exact hl)
  intro T hT XX
  obtain ⟨t, q1, q2⟩ := hw T hT XX
  rw [QE_K (X := X) rfl] at q2
  exact ⟨t, q1, q2 rfl ez.symm⟩
