theorem g_iconst {M : Mt} {X : Xt} {σ : St} {pc : Nat} {L : List (Nat × Value)} {st : List Value} {i : Int} {v : Int32} (hd : decode M.1 pc = .ok (.iconst i, 1)) (hv : Int32.ofInt i = v) (kk : G M X σ (pc + 1) L (.int v :: st)) : G M X σ pc L (st) :=
  ⟨kk.1, fun p e R s m args below meth c Q D hC H locs k n ls a1 a2 a3 a4 a5 a6 => lv_iconst hC.1 hC.2.1 hd hv (kk.2 p e R s m args below meth c Q D hC H locs k n ls a1 a2 a3 a4 a5 a6)⟩
theorem g_bipush {M : Mt} {X : Xt} {σ : St} {pc : Nat} {L : List (Nat × Value)} {st : List Value} {i : Int} {v : Int32} (hd : decode M.1 pc = .ok (.bipush i, 2)) (hv : (Int8.ofInt i).toInt32 = v) (kk : G M X σ (pc + 2) L (.int v :: st)) : G M X σ pc L (st) :=
  ⟨kk.1, fun p e R s m args below meth c Q D hC H locs k n ls a1 a2 a3 a4 a5 a6 => lv_bipush hC.1 hC.2.1 hd hv (kk.2 p e R s m args below meth c Q D hC H locs k n ls a1 a2 a3 a4 a5 a6)⟩
theorem g_sipush {M : Mt} {X : Xt} {σ : St} {pc : Nat} {L : List (Nat × Value)} {st : List Value} {i : Int} {v : Int32} (hd : decode M.1 pc = .ok (.sipush i, 3)) (hv : (Int16.ofInt i).toInt32 = v) (kk : G M X σ (pc + 3) L (.int v :: st)) : G M X σ pc L (st) :=
  ⟨kk.1, fun p e R s m args below meth c Q D hC H locs k n ls a1 a2 a3 a4 a5 a6 => lv_sipush hC.1 hC.2.1 hd hv (kk.2 p e R s m args below meth c Q D hC H locs k n ls a1 a2 a3 a4 a5 a6)⟩
theorem g_lconst {M : Mt} {X : Xt} {σ : St} {pc : Nat} {L : List (Nat × Value)} {st : List Value} {i : Fin 2} {v : Int64} (hd : decode M.1 pc = .ok (.lconst i, 1)) (hv : Int64.ofNat (i : Nat) = v) (kk : G M X σ (pc + 1) L (.long v :: st)) : G M X σ pc L (st) :=
  ⟨kk.1, fun p e R s m args below meth c Q D hC H locs k n ls a1 a2 a3 a4 a5 a6 => lv_lconst hC.1 hC.2.1 hd hv (kk.2 p e R s m args below meth c Q D hC H locs k n ls a1 a2 a3 a4 a5 a6)⟩
theorem g_iload_n {M : Mt} {X : Xt} {σ : St} {pc : Nat} {L : List (Nat × Value)} {st : List Value} {q : Fin 4} {i j : Nat} {x : Int32} (hd : decode M.1 pc = .ok (.iload_n q, 1)) (hi : (q : Nat) = i) (hl : L[j]? = some (i, .int x)) (kk : G M X σ (pc + 1) L (.int x :: st)) : G M X σ pc L (st) :=
  ⟨kk.1, fun p e R s m args below meth c Q D hC H locs k n ls a1 a2 a3 a4 a5 a6 => lv_iload_n hC.1 hC.2.1 hd hi (lv_at a6 j hl) (kk.2 p e R s m args below meth c Q D hC H locs k n ls a1 a2 a3 a4 a5 a6)⟩
theorem g_iload {M : Mt} {X : Xt} {σ : St} {pc : Nat} {L : List (Nat × Value)} {st : List Value} {i j : Nat} {x : Int32} (hd : decode M.1 pc = .ok (.iload i, 2)) (hl : L[j]? = some (i, .int x)) (kk : G M X σ (pc + 2) L (.int x :: st)) : G M X σ pc L (st) :=
  ⟨kk.1, fun p e R s m args below meth c Q D hC H locs k n ls a1 a2 a3 a4 a5 a6 => lv_iload hC.1 hC.2.1 hd (lv_at a6 j hl) (kk.2 p e R s m args below meth c Q D hC H locs k n ls a1 a2 a3 a4 a5 a6)⟩
theorem g_lload_n {M : Mt} {X : Xt} {σ : St} {pc : Nat} {L : List (Nat × Value)} {st : List Value} {q : Fin 4} {i j : Nat} {x : Int64} (hd : decode M.1 pc = .ok (.lload_n q, 1)) (hi : (q : Nat) = i) (hl : L[j]? = some (i, .long x)) (kk : G M X σ (pc + 1) L (.long x :: st)) : G M X σ pc L (st) :=
  ⟨kk.1, fun p e R s m args below meth c Q D hC H locs k n ls a1 a2 a3 a4 a5 a6 => lv_lload_n hC.1 hC.2.1 hd hi (lv_at a6 j hl) (kk.2 p e R s m args below meth c Q D hC H locs k n ls a1 a2 a3 a4 a5 a6)⟩
theorem g_lload {M : Mt} {X : Xt} {σ : St} {pc : Nat} {L : List (Nat × Value)} {st : List Value} {i j : Nat} {x : Int64} (hd : decode M.1 pc = .ok (.lload i, 2)) (hl : L[j]? = some (i, .long x)) (kk : G M X σ (pc + 2) L (.long x :: st)) : G M X σ pc L (st) :=
  ⟨kk.1, fun p e R s m args below meth c Q D hC H locs k n ls a1 a2 a3 a4 a5 a6 => lv_lload hC.1 hC.2.1 hd (lv_at a6 j hl) (kk.2 p e R s m args below meth c Q D hC H locs k n ls a1 a2 a3 a4 a5 a6)⟩
theorem g_aload_n {M : Mt} {X : Xt} {σ : St} {pc : Nat} {L : List (Nat × Value)} {st : List Value} {q : Fin 4} {i j r : Nat} (hd : decode M.1 pc = .ok (.aload_n q, 1)) (hi : (q : Nat) = i) (hl : L[j]? = some (i, rv r)) (kk : G M X σ (pc + 1) L (rv r :: st)) : G M X σ pc L st := by
  refine ⟨kk.1, fun p e R s m args below meth c Q D hC H locs k n ls a1 a2 a3 a4 a5 a6 => ?_⟩
  have hg := kk.2 p e R s m args below meth c Q D hC H locs k n ls a1 a2 a3 a4 a5 a6
  have h1 := lv_at a6 j hl
  by_cases h : r = 0
  · subst h
    exact lv_aload_nN hC.1 hC.2.1 hd hi h1 hg
  · rw [rv_pos h] at h1 hg
    exact lv_aload_n hC.1 hC.2.1 hd hi h1 hg
theorem g_aload {M : Mt} {X : Xt} {σ : St} {pc : Nat} {L : List (Nat × Value)} {st : List Value} {i j r : Nat} (hd : decode M.1 pc = .ok (.aload i, 2)) (hl : L[j]? = some (i, rv r)) (kk : G M X σ (pc + 2) L (rv r :: st)) : G M X σ pc L st := by
  refine ⟨kk.1, fun p e R s m args below meth c Q D hC H locs k n ls a1 a2 a3 a4 a5 a6 => ?_⟩
  have hg := kk.2 p e R s m args below meth c Q D hC H locs k n ls a1 a2 a3 a4 a5 a6
  have h1 := lv_at a6 j hl
  by_cases h : r = 0
  · subst h
    exact lv_aloadN hC.1 hC.2.1 hd h1 hg
  · rw [rv_pos h] at h1 hg
    exact lv_aload hC.1 hC.2.1 hd h1 hg
theorem g_istore_n {M : Mt} {X : Xt} {σ : St} {pc : Nat} {L : List (Nat × Value)} {st : List Value} {L' : List (Nat × Value)} {q : Fin 4} {i : Nat} {x : Int32} (hd : decode M.1 pc = .ok (.istore_n q, 1)) (hi : (q : Nat) = i) (hn : i < M.2.1) (hl : (i, .int x) :: L.filter (fun q => !(q.1 == i) && !(q.1 + 1 == i && q.2.category == 2)) = L') (kk : G M X σ (pc + 1) L' st) : G M X σ pc L (.int x :: st) :=
  ⟨kk.1, fun p e R s m args below meth c Q D hC H locs k n ls a1 a2 a3 a4 a5 a6 => lv_istore_n hC.1 hC.2.1 hd hi a6 (by rw [hC.2.2.1]; exact hn) hl (fun ls' a6' => kk.2 p e R s m args below meth c Q D hC H locs k n ls' a1 a2 a3 a4 a5 a6')⟩
theorem g_istore {M : Mt} {X : Xt} {σ : St} {pc : Nat} {L : List (Nat × Value)} {st : List Value} {L' : List (Nat × Value)} {i : Nat} {x : Int32} (hd : decode M.1 pc = .ok (.istore i, 2))  (hn : i < M.2.1) (hl : (i, .int x) :: L.filter (fun q => !(q.1 == i) && !(q.1 + 1 == i && q.2.category == 2)) = L') (kk : G M X σ (pc + 2) L' st) : G M X σ pc L (.int x :: st) :=
  ⟨kk.1, fun p e R s m args below meth c Q D hC H locs k n ls a1 a2 a3 a4 a5 a6 => lv_istore hC.1 hC.2.1 hd  a6 (by rw [hC.2.2.1]; exact hn) hl (fun ls' a6' => kk.2 p e R s m args below meth c Q D hC H locs k n ls' a1 a2 a3 a4 a5 a6')⟩
theorem g_lstore_n {M : Mt} {X : Xt} {σ : St} {pc : Nat} {L : List (Nat × Value)} {st : List Value} {L' : List (Nat × Value)} {q : Fin 4} {i : Nat} {x : Int64} (hd : decode M.1 pc = .ok (.lstore_n q, 1)) (hi : (q : Nat) = i) (hn : i + 1 < M.2.1) (hl : (i, .long x) :: L.filter (fun q => !(q.1 == i) && (!(q.1 == i + 1) && !(q.1 + 1 == i && q.2.category == 2))) = L') (kk : G M X σ (pc + 1) L' st) : G M X σ pc L (.long x :: st) :=
  ⟨kk.1, fun p e R s m args below meth c Q D hC H locs k n ls a1 a2 a3 a4 a5 a6 => lv_lstore_n hC.1 hC.2.1 hd hi a6 (by rw [hC.2.2.1]; exact hn) hl (fun ls' a6' => kk.2 p e R s m args below meth c Q D hC H locs k n ls' a1 a2 a3 a4 a5 a6')⟩
theorem g_lstore {M : Mt} {X : Xt} {σ : St} {pc : Nat} {L : List (Nat × Value)} {st : List Value} {L' : List (Nat × Value)} {i : Nat} {x : Int64} (hd : decode M.1 pc = .ok (.lstore i, 2))  (hn : i + 1 < M.2.1) (hl : (i, .long x) :: L.filter (fun q => !(q.1 == i) && (!(q.1 == i + 1) && !(q.1 + 1 == i && q.2.category == 2))) = L') (kk : G M X σ (pc + 2) L' st) : G M X σ pc L (.long x :: st) :=
  ⟨kk.1, fun p e R s m args below meth c Q D hC H locs k n ls a1 a2 a3 a4 a5 a6 => lv_lstore hC.1 hC.2.1 hd  a6 (by rw [hC.2.2.1]; exact hn) hl (fun ls' a6' => kk.2 p e R s m args below meth c Q D hC H locs k n ls' a1 a2 a3 a4 a5 a6')⟩
theorem g_astore_n {M : Mt} {X : Xt} {σ : St} {pc : Nat} {L : List (Nat × Value)} {st : List Value} {L' : List (Nat × Value)} {q : Fin 4} {i r : Nat} (hd : decode M.1 pc = .ok (.astore_n q, 1)) (hi : (q : Nat) = i) (hn : i < M.2.1) (hl : (i, rv r) :: L.filter (fun q => !(q.1 == i) && !(q.1 + 1 == i && q.2.category == 2)) = L') (kk : G M X σ (pc + 1) L' st) : G M X σ pc L (rv r :: st) := by
  refine ⟨kk.1, fun p e R s m args below meth c Q D hC H locs k n ls a1 a2 a3 a4 a5 a6 => ?_⟩
  have hg := fun (ls' : Array Slot) (a6' : lv_has ls' c.maxLocals L') => kk.2 p e R s m args below meth c Q D hC H locs k n ls' a1 a2 a3 a4 a5 a6'
  have hn' : i < c.maxLocals := by rw [hC.2.2.1]; exact hn
  by_cases h : r = 0
  · subst h
    exact lv_astore_nN hC.1 hC.2.1 hd hi a6 hn' hl hg
  · rw [rv_pos h] at hl ⊢
    exact lv_astore_n hC.1 hC.2.1 hd hi a6 hn' hl hg
theorem g_astore {M : Mt} {X : Xt} {σ : St} {pc : Nat} {L : List (Nat × Value)} {st : List Value} {L' : List (Nat × Value)} {i r : Nat} (hd : decode M.1 pc = .ok (.astore i, 2))  (hn : i < M.2.1) (hl : (i, rv r) :: L.filter (fun q => !(q.1 == i) && !(q.1 + 1 == i && q.2.category == 2)) = L') (kk : G M X σ (pc + 2) L' st) : G M X σ pc L (rv r :: st) := by
  refine ⟨kk.1, fun p e R s m args below meth c Q D hC H locs k n ls a1 a2 a3 a4 a5 a6 => ?_⟩
  have hg := fun (ls' : Array Slot) (a6' : lv_has ls' c.maxLocals L') => kk.2 p e R s m args below meth c Q D hC H locs k n ls' a1 a2 a3 a4 a5 a6'
  have hn' : i < c.maxLocals := by rw [hC.2.2.1]; exact hn
  by_cases h : r = 0
  · subst h
    exact lv_astoreN hC.1 hC.2.1 hd  a6 hn' hl hg
  · rw [rv_pos h] at hl ⊢
    exact lv_astore hC.1 hC.2.1 hd  a6 hn' hl hg
theorem g_iinc {M : Mt} {X : Xt} {σ : St} {pc : Nat} {L : List (Nat × Value)} {st : List Value} {L' : List (Nat × Value)} {i j : Nat} {z : Int} {x v : Int32} (hd : decode M.1 pc = .ok (.iinc i z, 3)) (hj : L[j]? = some (i, .int x)) (hv : x + Int32.ofInt z = v) (hn : i < M.2.1) (hl : (i, .int v) :: L.filter (fun q => !(q.1 == i) && !(q.1 + 1 == i && q.2.category == 2)) = L') (kk : G M X σ (pc + 3) L' st) : G M X σ pc L st :=
  ⟨kk.1, fun p e R s m args below meth c Q D hC H locs k n ls a1 a2 a3 a4 a5 a6 => lv_iinc hC.1 hC.2.1 hd a6 (k := j) hj hv (by rw [hC.2.2.1]; exact hn) hl (fun ls' a6' => kk.2 p e R s m args below meth c Q D hC H locs k n ls' a1 a2 a3 a4 a5 a6')⟩
theorem g_iadd {M : Mt} {X : Xt} {σ : St} {pc : Nat} {L : List (Nat × Value)} {st : List Value} {x y : Int32} (hd : decode M.1 pc = .ok (.iadd, 1))  (kk : G M X σ (pc + 1) L (.int (x + y) :: st)) : G M X σ pc L (.int y :: .int x :: st) :=
  ⟨kk.1, fun p e R s m args below meth c Q D hC H locs k n ls a1 a2 a3 a4 a5 a6 => lv_iadd hC.1 hC.2.1 hd  (kk.2 p e R s m args below meth c Q D hC H locs k n ls a1 a2 a3 a4 a5 a6)⟩
theorem g_isub {M : Mt} {X : Xt} {σ : St} {pc : Nat} {L : List (Nat × Value)} {st : List Value} {x y : Int32} (hd : decode M.1 pc = .ok (.isub, 1))  (kk : G M X σ (pc + 1) L (.int (x - y) :: st)) : G M X σ pc L (.int y :: .int x :: st) :=
  ⟨kk.1, fun p e R s m args below meth c Q D hC H locs k n ls a1 a2 a3 a4 a5 a6 => lv_isub hC.1 hC.2.1 hd  (kk.2 p e R s m args below meth c Q D hC H locs k n ls a1 a2 a3 a4 a5 a6)⟩
theorem g_imul {M : Mt} {X : Xt} {σ : St} {pc : Nat} {L : List (Nat × Value)} {st : List Value} {x y : Int32} (hd : decode M.1 pc = .ok (.imul, 1))  (kk : G M X σ (pc + 1) L (.int (x * y) :: st)) : G M X σ pc L (.int y :: .int x :: st) :=
  ⟨kk.1, fun p e R s m args below meth c Q D hC H locs k n ls a1 a2 a3 a4 a5 a6 => lv_imul hC.1 hC.2.1 hd  (kk.2 p e R s m args below meth c Q D hC H locs k n ls a1 a2 a3 a4 a5 a6)⟩
theorem g_iand {M : Mt} {X : Xt} {σ : St} {pc : Nat} {L : List (Nat × Value)} {st : List Value} {x y : Int32} (hd : decode M.1 pc = .ok (.iand, 1))  (kk : G M X σ (pc + 1) L (.int (x &&& y) :: st)) : G M X σ pc L (.int y :: .int x :: st) :=
  ⟨kk.1, fun p e R s m args below meth c Q D hC H locs k n ls a1 a2 a3 a4 a5 a6 => lv_iand hC.1 hC.2.1 hd  (kk.2 p e R s m args below meth c Q D hC H locs k n ls a1 a2 a3 a4 a5 a6)⟩
theorem g_ior {M : Mt} {X : Xt} {σ : St} {pc : Nat} {L : List (Nat × Value)} {st : List Value} {x y : Int32} (hd : decode M.1 pc = .ok (.ior, 1))  (kk : G M X σ (pc + 1) L (.int (x ||| y) :: st)) : G M X σ pc L (.int y :: .int x :: st) :=
  ⟨kk.1, fun p e R s m args below meth c Q D hC H locs k n ls a1 a2 a3 a4 a5 a6 => lv_ior hC.1 hC.2.1 hd  (kk.2 p e R s m args below meth c Q D hC H locs k n ls a1 a2 a3 a4 a5 a6)⟩
theorem g_ixor {M : Mt} {X : Xt} {σ : St} {pc : Nat} {L : List (Nat × Value)} {st : List Value} {x y : Int32} (hd : decode M.1 pc = .ok (.ixor, 1))  (kk : G M X σ (pc + 1) L (.int (x ^^^ y) :: st)) : G M X σ pc L (.int y :: .int x :: st) :=
  ⟨kk.1, fun p e R s m args below meth c Q D hC H locs k n ls a1 a2 a3 a4 a5 a6 => lv_ixor hC.1 hC.2.1 hd  (kk.2 p e R s m args below meth c Q D hC H locs k n ls a1 a2 a3 a4 a5 a6)⟩
theorem g_ishl {M : Mt} {X : Xt} {σ : St} {pc : Nat} {L : List (Nat × Value)} {st : List Value} {x y : Int32} (hd : decode M.1 pc = .ok (.ishl, 1))  (kk : G M X σ (pc + 1) L (.int (x <<< (y &&& 31)) :: st)) : G M X σ pc L (.int y :: .int x :: st) :=
  ⟨kk.1, fun p e R s m args below meth c Q D hC H locs k n ls a1 a2 a3 a4 a5 a6 => lv_ishl hC.1 hC.2.1 hd  (kk.2 p e R s m args below meth c Q D hC H locs k n ls a1 a2 a3 a4 a5 a6)⟩
theorem g_ishr {M : Mt} {X : Xt} {σ : St} {pc : Nat} {L : List (Nat × Value)} {st : List Value} {x y : Int32} (hd : decode M.1 pc = .ok (.ishr, 1))  (kk : G M X σ (pc + 1) L (.int (x >>> (y &&& 31)) :: st)) : G M X σ pc L (.int y :: .int x :: st) :=
  ⟨kk.1, fun p e R s m args below meth c Q D hC H locs k n ls a1 a2 a3 a4 a5 a6 => lv_ishr hC.1 hC.2.1 hd  (kk.2 p e R s m args below meth c Q D hC H locs k n ls a1 a2 a3 a4 a5 a6)⟩
theorem g_idiv {M : Mt} {X : Xt} {σ : St} {pc : Nat} {L : List (Nat × Value)} {st : List Value} {x y : Int32} (hd : decode M.1 pc = .ok (.idiv, 1)) (hne : ¬ y = 0) (kk : G M X σ (pc + 1) L (.int (x / y) :: st)) : G M X σ pc L (.int y :: .int x :: st) :=
  ⟨kk.1, fun p e R s m args below meth c Q D hC H locs k n ls a1 a2 a3 a4 a5 a6 => lv_idiv hC.1 hC.2.1 hd hne (kk.2 p e R s m args below meth c Q D hC H locs k n ls a1 a2 a3 a4 a5 a6)⟩
theorem g_irem {M : Mt} {X : Xt} {σ : St} {pc : Nat} {L : List (Nat × Value)} {st : List Value} {x y : Int32} (hd : decode M.1 pc = .ok (.irem, 1)) (hne : ¬ y = 0) (kk : G M X σ (pc + 1) L (.int (x - x / y * y) :: st)) : G M X σ pc L (.int y :: .int x :: st) :=
  ⟨kk.1, fun p e R s m args below meth c Q D hC H locs k n ls a1 a2 a3 a4 a5 a6 => lv_irem hC.1 hC.2.1 hd hne (kk.2 p e R s m args below meth c Q D hC H locs k n ls a1 a2 a3 a4 a5 a6)⟩
theorem g_ineg {M : Mt} {X : Xt} {σ : St} {pc : Nat} {L : List (Nat × Value)} {st : List Value} {x : Int32} (hd : decode M.1 pc = .ok (.ineg, 1))  (kk : G M X σ (pc + 1) L (.int (-x) :: st)) : G M X σ pc L (.int x :: st) :=
  ⟨kk.1, fun p e R s m args below meth c Q D hC H locs k n ls a1 a2 a3 a4 a5 a6 => lv_ineg hC.1 hC.2.1 hd  (kk.2 p e R s m args below meth c Q D hC H locs k n ls a1 a2 a3 a4 a5 a6)⟩
theorem g_iushr {M : Mt} {X : Xt} {σ : St} {pc : Nat} {L : List (Nat × Value)} {st : List Value} {x y v : Int32} (hd : decode M.1 pc = .ok (.iushr, 1)) (hv : (x.toUInt32 >>> (y.toUInt32 &&& Int32.toUInt32 31)).toInt32 = v) (kk : G M X σ (pc + 1) L (.int v :: st)) : G M X σ pc L (.int y :: .int x :: st) :=
  ⟨kk.1, fun p e R s m args below meth c Q D hC H locs k n ls a1 a2 a3 a4 a5 a6 => lv_iushr hC.1 hC.2.1 hd hv (kk.2 p e R s m args below meth c Q D hC H locs k n ls a1 a2 a3 a4 a5 a6)⟩
theorem g_ladd {M : Mt} {X : Xt} {σ : St} {pc : Nat} {L : List (Nat × Value)} {st : List Value} {x y : Int64} (hd : decode M.1 pc = .ok (.ladd, 1))  (kk : G M X σ (pc + 1) L (.long (x + y) :: st)) : G M X σ pc L (.long y :: .long x :: st) :=
  ⟨kk.1, fun p e R s m args below meth c Q D hC H locs k n ls a1 a2 a3 a4 a5 a6 => lv_ladd hC.1 hC.2.1 hd  (kk.2 p e R s m args below meth c Q D hC H locs k n ls a1 a2 a3 a4 a5 a6)⟩
theorem g_lsub {M : Mt} {X : Xt} {σ : St} {pc : Nat} {L : List (Nat × Value)} {st : List Value} {x y : Int64} (hd : decode M.1 pc = .ok (.lsub, 1))  (kk : G M X σ (pc + 1) L (.long (x - y) :: st)) : G M X σ pc L (.long y :: .long x :: st) :=
  ⟨kk.1, fun p e R s m args below meth c Q D hC H locs k n ls a1 a2 a3 a4 a5 a6 => lv_lsub hC.1 hC.2.1 hd  (kk.2 p e R s m args below meth c Q D hC H locs k n ls a1 a2 a3 a4 a5 a6)⟩
theorem g_lmul {M : Mt} {X : Xt} {σ : St} {pc : Nat} {L : List (Nat × Value)} {st : List Value} {x y : Int64} (hd : decode M.1 pc = .ok (.lmul, 1))  (kk : G M X σ (pc + 1) L (.long (x * y) :: st)) : G M X σ pc L (.long y :: .long x :: st) :=
  ⟨kk.1, fun p e R s m args below meth c Q D hC H locs k n ls a1 a2 a3 a4 a5 a6 => lv_lmul hC.1 hC.2.1 hd  (kk.2 p e R s m args below meth c Q D hC H locs k n ls a1 a2 a3 a4 a5 a6)⟩
theorem g_lxor {M : Mt} {X : Xt} {σ : St} {pc : Nat} {L : List (Nat × Value)} {st : List Value} {x y : Int64} (hd : decode M.1 pc = .ok (.lxor, 1))  (kk : G M X σ (pc + 1) L (.long (x ^^^ y) :: st)) : G M X σ pc L (.long y :: .long x :: st) :=
  ⟨kk.1, fun p e R s m args below meth c Q D hC H locs k n ls a1 a2 a3 a4 a5 a6 => lv_lxor hC.1 hC.2.1 hd  (kk.2 p e R s m args below meth c Q D hC H locs k n ls a1 a2 a3 a4 a5 a6)⟩
theorem g_ldiv {M : Mt} {X : Xt} {σ : St} {pc : Nat} {L : List (Nat × Value)} {st : List Value} {x y : Int64} (hd : decode M.1 pc = .ok (.ldiv, 1)) (hne : ¬ y = 0) (kk : G M X σ (pc + 1) L (.long (x / y) :: st)) : G M X σ pc L (.long y :: .long x :: st) :=
  ⟨kk.1, fun p e R s m args below meth c Q D hC H locs k n ls a1 a2 a3 a4 a5 a6 => lv_ldiv hC.1 hC.2.1 hd hne (kk.2 p e R s m args below meth c Q D hC H locs k n ls a1 a2 a3 a4 a5 a6)⟩
theorem g_lrem {M : Mt} {X : Xt} {σ : St} {pc : Nat} {L : List (Nat × Value)} {st : List Value} {x y : Int64} (hd : decode M.1 pc = .ok (.lrem, 1)) (hne : ¬ y = 0) (kk : G M X σ (pc + 1) L (.long (x - x / y * y) :: st)) : G M X σ pc L (.long y :: .long x :: st) :=
  ⟨kk.1, fun p e R s m args below meth c Q D hC H locs k n ls a1 a2 a3 a4 a5 a6 => lv_lrem hC.1 hC.2.1 hd hne (kk.2 p e R s m args below meth c Q D hC H locs k n ls a1 a2 a3 a4 a5 a6)⟩
theorem g_i2l {M : Mt} {X : Xt} {σ : St} {pc : Nat} {L : List (Nat × Value)} {st : List Value} {x : Int32} {v : Int64} (hd : decode M.1 pc = .ok (.i2l, 1)) (hv : x.toInt64 = v) (kk : G M X σ (pc + 1) L (.long v :: st)) : G M X σ pc L (.int x :: st) :=
  ⟨kk.1, fun p e R s m args below meth c Q D hC H locs k n ls a1 a2 a3 a4 a5 a6 => lv_i2l hC.1 hC.2.1 hd hv (kk.2 p e R s m args below meth c Q D hC H locs k n ls a1 a2 a3 a4 a5 a6)⟩
theorem g_l2i {M : Mt} {X : Xt} {σ : St} {pc : Nat} {L : List (Nat × Value)} {st : List Value} {x : Int64} {v : Int32} (hd : decode M.1 pc = .ok (.l2i, 1)) (hv : x.toInt32 = v) (kk : G M X σ (pc + 1) L (.int v :: st)) : G M X σ pc L (.long x :: st) :=
  ⟨kk.1, fun p e R s m args below meth c Q D hC H locs k n ls a1 a2 a3 a4 a5 a6 => lv_l2i hC.1 hC.2.1 hd hv (kk.2 p e R s m args below meth c Q D hC H locs k n ls a1 a2 a3 a4 a5 a6)⟩
theorem g_i2b {M : Mt} {X : Xt} {σ : St} {pc : Nat} {L : List (Nat × Value)} {st : List Value} {x v : Int32} (hd : decode M.1 pc = .ok (.i2b, 1)) (hv : x.toInt8.toInt32 = v) (kk : G M X σ (pc + 1) L (.int v :: st)) : G M X σ pc L (.int x :: st) :=
  ⟨kk.1, fun p e R s m args below meth c Q D hC H locs k n ls a1 a2 a3 a4 a5 a6 => lv_i2b hC.1 hC.2.1 hd hv (kk.2 p e R s m args below meth c Q D hC H locs k n ls a1 a2 a3 a4 a5 a6)⟩
theorem g_i2c {M : Mt} {X : Xt} {σ : St} {pc : Nat} {L : List (Nat × Value)} {st : List Value} {x v : Int32} (hd : decode M.1 pc = .ok (.i2c, 1)) (hv : (x.toUInt32 % 65536).toInt32 = v) (kk : G M X σ (pc + 1) L (.int v :: st)) : G M X σ pc L (.int x :: st) :=
  ⟨kk.1, fun p e R s m args below meth c Q D hC H locs k n ls a1 a2 a3 a4 a5 a6 => lv_i2c hC.1 hC.2.1 hd hv (kk.2 p e R s m args below meth c Q D hC H locs k n ls a1 a2 a3 a4 a5 a6)⟩
theorem g_dup {M : Mt} {X : Xt} {σ : St} {pc : Nat} {L : List (Nat × Value)} {st : List Value} {v : Value} (hd : decode M.1 pc = .ok (.dup, 1)) (hv : v.category = 1) (kk : G M X σ (pc + 1) L (v :: v :: st)) : G M X σ pc L (v :: st) :=
  ⟨kk.1, fun p e R s m args below meth c Q D hC H locs k n ls a1 a2 a3 a4 a5 a6 => lv_dup hC.1 hC.2.1 hd hv (kk.2 p e R s m args below meth c Q D hC H locs k n ls a1 a2 a3 a4 a5 a6)⟩
theorem g_pop {M : Mt} {X : Xt} {σ : St} {pc : Nat} {L : List (Nat × Value)} {st : List Value} {v : Value} (hd : decode M.1 pc = .ok (.pop, 1)) (hv : v.category = 1) (kk : G M X σ (pc + 1) L (st)) : G M X σ pc L (v :: st) :=
  ⟨kk.1, fun p e R s m args below meth c Q D hC H locs k n ls a1 a2 a3 a4 a5 a6 => lv_pop hC.1 hC.2.1 hd hv (kk.2 p e R s m args below meth c Q D hC H locs k n ls a1 a2 a3 a4 a5 a6)⟩
theorem g_dup_x1 {M : Mt} {X : Xt} {σ : St} {pc : Nat} {L : List (Nat × Value)} {st : List Value} {v w : Value} (hd : decode M.1 pc = .ok (.dup_x1, 1)) (hv : v.category = 1) (hw : w.category = 1) (kk : G M X σ (pc + 1) L (v :: w :: v :: st)) : G M X σ pc L (v :: w :: st) :=
  ⟨kk.1, fun p e R s m args below meth c Q D hC H locs k n ls a1 a2 a3 a4 a5 a6 => lv_dup_x1 hC.1 hC.2.1 hd hv hw (kk.2 p e R s m args below meth c Q D hC H locs k n ls a1 a2 a3 a4 a5 a6)⟩
theorem g_dup2 {M : Mt} {X : Xt} {σ : St} {pc : Nat} {L : List (Nat × Value)} {st : List Value} {v w : Value} (hd : decode M.1 pc = .ok (.dup2, 1)) (hv : v.category = 1) (hw : w.category = 1) (kk : G M X σ (pc + 1) L (v :: w :: v :: w :: st)) : G M X σ pc L (v :: w :: st) :=
  ⟨kk.1, fun p e R s m args below meth c Q D hC H locs k n ls a1 a2 a3 a4 a5 a6 => lv_dup2_11 hC.1 hC.2.1 hd hv hw (kk.2 p e R s m args below meth c Q D hC H locs k n ls a1 a2 a3 a4 a5 a6)⟩
theorem g_null {M : Mt} {X : Xt} {σ : St} {pc : Nat} {L : List (Nat × Value)} {st : List Value} (hd : decode M.1 pc = .ok (.aconst_null, 1)) (kk : G M X σ (pc + 1) L (rv 0 :: st)) : G M X σ pc L st :=
  ⟨kk.1, fun p e R s m args below meth c Q D hC H locs k n ls a1 a2 a3 a4 a5 a6 => lv_null hC.1 hC.2.1 hd (kk.2 p e R s m args below meth c Q D hC H locs k n ls a1 a2 a3 a4 a5 a6)⟩
theorem g_if_eq {M : Mt} {X : Xt} {σ : St} {pc : Nat} {L : List (Nat × Value)} {st : List Value} {x : Int32} {off : Int} {tgt : Nat} (hd : decode M.1 pc = .ok (.ifCond .eq off, 3)) (ht : (pc : Int) + off = (tgt : Int)) (kt : x = 0 → G M X σ tgt L st) (kf : ¬ x = 0 → G M X σ (pc + 3) L st) : G M X σ pc L (.int x :: st) := by
  refine ⟨?_, fun p e R s m args below meth c Q D hC H locs k n ls a1 a2 a3 a4 a5 a6 => lv_if_eq hC.1 hC.2.1 hd ht (fun w => (kt w).2 p e R s m args below meth c Q D hC H locs k n ls a1 a2 a3 a4 a5 a6) (fun w => (kf w).2 p e R s m args below meth c Q D hC H locs k n ls a1 a2 a3 a4 a5 a6)⟩
  rcases Classical.em (x = 0) with w | w
  · exact (kt w).1
  · exact (kf w).1
theorem g_if_ne {M : Mt} {X : Xt} {σ : St} {pc : Nat} {L : List (Nat × Value)} {st : List Value} {x : Int32} {off : Int} {tgt : Nat} (hd : decode M.1 pc = .ok (.ifCond .ne off, 3)) (ht : (pc : Int) + off = (tgt : Int)) (kt : ¬ x = 0 → G M X σ tgt L st) (kf : x = 0 → G M X σ (pc + 3) L st) : G M X σ pc L (.int x :: st) := by
  refine ⟨?_, fun p e R s m args below meth c Q D hC H locs k n ls a1 a2 a3 a4 a5 a6 => lv_if_ne hC.1 hC.2.1 hd ht (fun w => (kt w).2 p e R s m args below meth c Q D hC H locs k n ls a1 a2 a3 a4 a5 a6) (fun w => (kf w).2 p e R s m args below meth c Q D hC H locs k n ls a1 a2 a3 a4 a5 a6)⟩
  rcases Classical.em (x = 0) with w | w
  · exact (kf w).1
  · exact (kt w).1
theorem g_if_lt {M : Mt} {X : Xt} {σ : St} {pc : Nat} {L : List (Nat × Value)} {st : List Value} {x : Int32} {off : Int} {tgt : Nat} (hd : decode M.1 pc = .ok (.ifCond .lt off, 3)) (ht : (pc : Int) + off = (tgt : Int)) (kt : x < 0 → G M X σ tgt L st) (kf : ¬ x < 0 → G M X σ (pc + 3) L st) : G M X σ pc L (.int x :: st) := by
  refine ⟨?_, fun p e R s m args below meth c Q D hC H locs k n ls a1 a2 a3 a4 a5 a6 => lv_if_lt hC.1 hC.2.1 hd ht (fun w => (kt w).2 p e R s m args below meth c Q D hC H locs k n ls a1 a2 a3 a4 a5 a6) (fun w => (kf w).2 p e R s m args below meth c Q D hC H locs k n ls a1 a2 a3 a4 a5 a6)⟩
  rcases Classical.em (x < 0) with w | w
  · exact (kt w).1
  · exact (kf w).1
theorem g_if_ge {M : Mt} {X : Xt} {σ : St} {pc : Nat} {L : List (Nat × Value)} {st : List Value} {x : Int32} {off : Int} {tgt : Nat} (hd : decode M.1 pc = .ok (.ifCond .ge off, 3)) (ht : (pc : Int) + off = (tgt : Int)) (kt : 0 ≤ x → G M X σ tgt L st) (kf : ¬ 0 ≤ x → G M X σ (pc + 3) L st) : G M X σ pc L (.int x :: st) := by
  refine ⟨?_, fun p e R s m args below meth c Q D hC H locs k n ls a1 a2 a3 a4 a5 a6 => lv_if_ge hC.1 hC.2.1 hd ht (fun w => (kt w).2 p e R s m args below meth c Q D hC H locs k n ls a1 a2 a3 a4 a5 a6) (fun w => (kf w).2 p e R s m args below meth c Q D hC H locs k n ls a1 a2 a3 a4 a5 a6)⟩
  rcases Classical.em (0 ≤ x) with w | w
  · exact (kt w).1
  · exact (kf w).1
theorem g_if_gt {M : Mt} {X : Xt} {σ : St} {pc : Nat} {L : List (Nat × Value)} {st : List Value} {x : Int32} {off : Int} {tgt : Nat} (hd : decode M.1 pc = .ok (.ifCond .gt off, 3)) (ht : (pc : Int) + off = (tgt : Int)) (kt : 0 < x → G M X σ tgt L st) (kf : ¬ 0 < x → G M X σ (pc + 3) L st) : G M X σ pc L (.int x :: st) := by
  refine ⟨?_, fun p e R s m args below meth c Q D hC H locs k n ls a1 a2 a3 a4 a5 a6 => lv_if_gt hC.1 hC.2.1 hd ht (fun w => (kt w).2 p e R s m args below meth c Q D hC H locs k n ls a1 a2 a3 a4 a5 a6) (fun w => (kf w).2 p e R s m args below meth c Q D hC H locs k n ls a1 a2 a3 a4 a5 a6)⟩
  rcases Classical.em (0 < x) with w | w
  · exact (kt w).1
  · exact (kf w).1
theorem g_if_le {M : Mt} {X : Xt} {σ : St} {pc : Nat} {L : List (Nat × Value)} {st : List Value} {x : Int32} {off : Int} {tgt : Nat} (hd : decode M.1 pc = .ok (.ifCond .le off, 3)) (ht : (pc : Int) + off = (tgt : Int)) (kt : x ≤ 0 → G M X σ tgt L st) (kf : ¬ x ≤ 0 → G M X σ (pc + 3) L st) : G M X σ pc L (.int x :: st) := by
  refine ⟨?_, fun p e R s m args below meth c Q D hC H locs k n ls a1 a2 a3 a4 a5 a6 => lv_if_le hC.1 hC.2.1 hd ht (fun w => (kt w).2 p e R s m args below meth c Q D hC H locs k n ls a1 a2 a3 a4 a5 a6) (fun w => (kf w).2 p e R s m args below meth c Q D hC H locs k n ls a1 a2 a3 a4 a5 a6)⟩
  rcases Classical.em (x ≤ 0) with w | w
  · exact (kt w).1
  · exact (kf w).1
theorem g_icmp_eq {M : Mt} {X : Xt} {σ : St} {pc : Nat} {L : List (Nat × Value)} {st : List Value} {x y : Int32} {off : Int} {tgt : Nat} (hd : decode M.1 pc = .ok (.if_icmp .eq off, 3)) (ht : (pc : Int) + off = (tgt : Int)) (kt : x = y → G M X σ tgt L st) (kf : ¬ x = y → G M X σ (pc + 3) L st) : G M X σ pc L (.int y :: .int x :: st) := by
  refine ⟨?_, fun p e R s m args below meth c Q D hC H locs k n ls a1 a2 a3 a4 a5 a6 => lv_icmp_eq hC.1 hC.2.1 hd ht (fun w => (kt w).2 p e R s m args below meth c Q D hC H locs k n ls a1 a2 a3 a4 a5 a6) (fun w => (kf w).2 p e R s m args below meth c Q D hC H locs k n ls a1 a2 a3 a4 a5 a6)⟩
  rcases Classical.em (x = y) with w | w
  · exact (kt w).1
  · exact (kf w).1
theorem g_icmp_ne {M : Mt} {X : Xt} {σ : St} {pc : Nat} {L : List (Nat × Value)} {st : List Value} {x y : Int32} {off : Int} {tgt : Nat} (hd : decode M.1 pc = .ok (.if_icmp .ne off, 3)) (ht : (pc : Int) + off = (tgt : Int)) (kt : ¬ x = y → G M X σ tgt L st) (kf : x = y → G M X σ (pc + 3) L st) : G M X σ pc L (.int y :: .int x :: st) := by
  refine ⟨?_, fun p e R s m args below meth c Q D hC H locs k n ls a1 a2 a3 a4 a5 a6 => lv_icmp_ne hC.1 hC.2.1 hd ht (fun w => (kt w).2 p e R s m args below meth c Q D hC H locs k n ls a1 a2 a3 a4 a5 a6) (fun w => (kf w).2 p e R s m args below meth c Q D hC H locs k n ls a1 a2 a3 a4 a5 a6)⟩
  rcases Classical.em (x = y) with w | w
  · exact (kf w).1
  · exact (kt w).1
theorem g_icmp_lt {M : Mt} {X : Xt} {σ : St} {pc : Nat} {L : List (Nat × Value)} {st : List Value} {x y : Int32} {off : Int} {tgt : Nat} (hd : decode M.1 pc = .ok (.if_icmp .lt off, 3)) (ht : (pc : Int) + off = (tgt : Int)) (kt : x < y → G M X σ tgt L st) (kf : ¬ x < y → G M X σ (pc + 3) L st) : G M X σ pc L (.int y :: .int x :: st) := by
  refine ⟨?_, fun p e R s m args below meth c Q D hC H locs k n ls a1 a2 a3 a4 a5 a6 => lv_icmp_lt hC.1 hC.2.1 hd ht (fun w => (kt w).2 p e R s m args below meth c Q D hC H locs k n ls a1 a2 a3 a4 a5 a6) (fun w => (kf w).2 p e R s m args below meth c Q D hC H locs k n ls a1 a2 a3 a4 a5 a6)⟩
  rcases Classical.em (x < y) with w | w
  · exact (kt w).1
  · exact (kf w).1
theorem g_icmp_ge {M : Mt} {X : Xt} {σ : St} {pc : Nat} {L : List (Nat × Value)} {st : List Value} {x y : Int32} {off : Int} {tgt : Nat} (hd : decode M.1 pc = .ok (.if_icmp .ge off, 3)) (ht : (pc : Int) + off = (tgt : Int)) (kt : y ≤ x → G M X σ tgt L st) (kf : ¬ y ≤ x → G M X σ (pc + 3) L st) : G M X σ pc L (.int y :: .int x :: st) := by
  refine ⟨?_, fun p e R s m args below meth c Q D hC H locs k n ls a1 a2 a3 a4 a5 a6 => lv_icmp_ge hC.1 hC.2.1 hd ht (fun w => (kt w).2 p e R s m args below meth c Q D hC H locs k n ls a1 a2 a3 a4 a5 a6) (fun w => (kf w).2 p e R s m args below meth c Q D hC H locs k n ls a1 a2 a3 a4 a5 a6)⟩
  rcases Classical.em (y ≤ x) with w | w
  · exact (kt w).1
  · exact (kf w).1
theorem g_icmp_gt {M : Mt} {X : Xt} {σ : St} {pc : Nat} {L : List (Nat × Value)} {st : List Value} {x y : Int32} {off : Int} {tgt : Nat} (hd : decode M.1 pc = .ok (.if_icmp .gt off, 3)) (ht : (pc : Int) + off = (tgt : Int)) (kt : y < x → G M X σ tgt L st) (kf : ¬ y < x → G M X σ (pc + 3) L st) : G M X σ pc L (.int y :: .int x :: st) := by
  refine ⟨?_, fun p e R s m args below meth c Q D hC H locs k n ls a1 a2 a3 a4 a5 a6 => lv_icmp_gt hC.1 hC.2.1 hd ht (fun w => (kt w).2 p e R s m args below meth c Q D hC H locs k n ls a1 a2 a3 a4 a5 a6) (fun w => (kf w).2 p e R s m args below meth c Q D hC H locs k n ls a1 a2 a3 a4 a5 a6)⟩
  rcases Classical.em (y < x) with w | w
  · exact (kt w).1
  · exact (kf w).1
theorem g_icmp_le {M : Mt} {X : Xt} {σ : St} {pc : Nat} {L : List (Nat × Value)} {st : List Value} {x y : Int32} {off : Int} {tgt : Nat} (hd : decode M.1 pc = .ok (.if_icmp .le off, 3)) (ht : (pc : Int) + off = (tgt : Int)) (kt : x ≤ y → G M X σ tgt L st) (kf : ¬ x ≤ y → G M X σ (pc + 3) L st) : G M X σ pc L (.int y :: .int x :: st) := by
  refine ⟨?_, fun p e R s m args below meth c Q D hC H locs k n ls a1 a2 a3 a4 a5 a6 => lv_icmp_le hC.1 hC.2.1 hd ht (fun w => (kt w).2 p e R s m args below meth c Q D hC H locs k n ls a1 a2 a3 a4 a5 a6) (fun w => (kf w).2 p e R s m args below meth c Q D hC H locs k n ls a1 a2 a3 a4 a5 a6)⟩
  rcases Classical.em (x ≤ y) with w | w
  · exact (kt w).1
  · exact (kf w).1
theorem g_goto {M : Mt} {X : Xt} {σ : St} {pc : Nat} {L : List (Nat × Value)} {st : List Value} {off : Int} {tgt : Nat} (hd : decode M.1 pc = .ok (.goto off, 3)) (ht : (pc : Int) + off = (tgt : Int)) (kk : G M X σ tgt L st) : G M X σ pc L st :=
  ⟨kk.1, fun p e R s m args below meth c Q D hC H locs k n ls a1 a2 a3 a4 a5 a6 => lv_goto hC.1 hC.2.1 hd ht (kk.2 p e R s m args below meth c Q D hC H locs k n ls a1 a2 a3 a4 a5 a6)⟩
theorem g_ifnull {M : Mt} {X : Xt} {σ : St} {pc : Nat} {L : List (Nat × Value)} {st : List Value} {r : Nat} {off : Int} {tgt : Nat} (hd : decode M.1 pc = .ok (.ifnull off, 3)) (ht : (pc : Int) + off = (tgt : Int)) (kt : r = 0 → G M X σ tgt L st) (kf : ¬ r = 0 → G M X σ (pc + 3) L st) : G M X σ pc L (rv r :: st) := by
  by_cases h : r = 0
  · refine ⟨(kt h).1, fun p e R s m args below meth c Q D hC H locs k n ls a1 a2 a3 a4 a5 a6 => ?_⟩
    rw [h]
    exact lv_ifnullN hC.1 hC.2.1 hd ht ((kt h).2 p e R s m args below meth c Q D hC H locs k n ls a1 a2 a3 a4 a5 a6)
  · refine ⟨(kf h).1, fun p e R s m args below meth c Q D hC H locs k n ls a1 a2 a3 a4 a5 a6 => ?_⟩
    rw [rv_pos h]
    exact lv_ifnull hC.1 hC.2.1 hd ((kf h).2 p e R s m args below meth c Q D hC H locs k n ls a1 a2 a3 a4 a5 a6)
theorem g_ifnonnull {M : Mt} {X : Xt} {σ : St} {pc : Nat} {L : List (Nat × Value)} {st : List Value} {r : Nat} {off : Int} {tgt : Nat} (hd : decode M.1 pc = .ok (.ifnonnull off, 3)) (ht : (pc : Int) + off = (tgt : Int)) (kt : ¬ r = 0 → G M X σ tgt L st) (kf : r = 0 → G M X σ (pc + 3) L st) : G M X σ pc L (rv r :: st) := by
  by_cases h : r = 0
  · refine ⟨(kf h).1, fun p e R s m args below meth c Q D hC H locs k n ls a1 a2 a3 a4 a5 a6 => ?_⟩
    rw [h]
    exact lv_ifnonnullN hC.1 hC.2.1 hd ((kf h).2 p e R s m args below meth c Q D hC H locs k n ls a1 a2 a3 a4 a5 a6)
  · refine ⟨(kt h).1, fun p e R s m args below meth c Q D hC H locs k n ls a1 a2 a3 a4 a5 a6 => ?_⟩
    rw [rv_pos h]
    exact lv_ifnonnull hC.1 hC.2.1 hd ht ((kt h).2 p e R s m args below meth c Q D hC H locs k n ls a1 a2 a3 a4 a5 a6)
theorem g_topI {M : Mt} {X : Xt} {σ : St} {pc : Nat} {L : List (Nat × Value)} {st : List Value} {x v : Int32} (e : v = x) (kk : G M X σ pc L (.int v :: st)) : G M X σ pc L (.int x :: st) := e ▸ kk
theorem g_topL {M : Mt} {X : Xt} {σ : St} {pc : Nat} {L : List (Nat × Value)} {st : List Value} {x v : Int64} (e : v = x) (kk : G M X σ pc L (.long v :: st)) : G M X σ pc L (.long x :: st) := e ▸ kk
theorem g_sub {M : Mt} {X : Xt} {σ : St} {pc : Nat} {L : List (Nat × Value)} {st : List Value} {L' : List (Nat × Value)} (ks : List Nat) (hl : lv_pick L ks = L') (kk : G M X σ pc L' st) : G M X σ pc L st :=
  ⟨kk.1, fun p e R s m args below meth c Q D hC H locs k n ls a1 a2 a3 a4 a5 a6 => kk.2 p e R s m args below meth c Q D hC H locs k n ls a1 a2 a3 a4 a5 (lv_sub a6 ks hl)⟩
