/-! ===== the reference is made ===== -/
abbrev Lst := List (Nat × Nat × Nat)
def lsum : Lst → Nat
  | [] => 0
  | t :: L => t.2.1 + lsum L
theorem lsum_app : ∀ (a : Lst) (t : Nat × Nat × Nat), lsum (a ++ [t]) = lsum a + t.2.1
  | [], t => by show t.2.1 + 0 = 0 + t.2.1; omega
  | x :: a, t => by
    show x.2.1 + lsum (a ++ [t]) = x.2.1 + lsum a + t.2.1
    rw [lsum_app a t]
    omega
/-- cells below a place are as they were -/
def Sbl (m : Nat) (σ0 σ : St) : Prop := ∀ b, b < m → sK σ b = sK σ0 b ∧ sN σ b = sN σ0 b ∧ (∀ f, sF σ f b = sF σ0 f b) ∧ (∀ f, sI σ f b = sI σ0 f b) ∧ (∀ i, sA σ b i = sA σ0 b i) ∧ (∀ i, sJ σ b i = sJ σ0 b i) ∧ ∀ i, sQ σ b i = sQ σ0 b i
/-- a part of the reference is made -/
def Stg (m : Nat) (σ0 : St) (L : Lst) (I : List Nat) (σ : St) : Prop := (sz σ = m + 1 + L.length ∧ sc σ = sc σ0 + 1 + L.length ∧ sw σ = sw σ0 + 83 + lsum L) ∧ Sbl m σ0 σ ∧ sK σ m = 17 ∧ (∀ j t, L[j]? = some t → (sF σ (fid 16 t.2.2) m = m + (j + 1) ∧ sK σ (m + (j + 1)) = t.1 ∧ sN σ (m + (j + 1)) = t.2.1) ∧ ∀ i, sA σ (m + (j + 1)) i = 0) ∧ (∀ f, sI σ (fid 16 f) m = if f ∈ I then iz (-1) else nI 0) ∧ ∀ b, sz σ ≤ b → sK σ b = sK σ0 b
theorem nwA_ok2 {σ : St} {m ti : Nat} (hm : m ≤ 60000000) : nwA ti (nI m) σ = some (nw (100 + ti) m m σ) := by
  unfold nwA
  rw [sm_clamp (by omega), if_pos]
  refine ⟨?_, hm⟩
  show ¬ nI m < nI 0
  rw [sm_lt (by omega) (by omega)]
  omega
theorem ini_a {m ti n f : Nat} {x : Int32} {σ0 σ : St} {L : Lst} {I : List Nat} {β : Type} {k : St → Option (St × β)} {P : St → β → Prop} (hx : x = nI n) (hn : n ≤ 60000000) (h : Stg m σ0 L I σ) (hf : ∀ t ∈ L, t.2.2 ≠ f) (hK : ∀ σ', Stg m σ0 (L ++ [(100 + ti, n, f)]) I σ' → Hx (k σ') P) : Hx (Option.bind (nwA ti x σ) fun σ2 => nm (sz σ) fun a3 => Option.bind (pF σ2 16 f m a3) k) P := by
  obtain ⟨⟨h1, h2, h3⟩, h4, h5, h6, h7, h8⟩ := h
  rw [hx, nwA_ok2 hn]
  refine hx_bs (hx_nm ?_)
  have ek : sK (nw (100 + ti) n n σ) m = 17 := by
    show (if m = sz σ then 100 + ti else sK σ m) = 17
    rw [if_neg (by omega)]
    exact h5
  have ep : pF (nw (100 + ti) n n σ) 16 f m (sz σ) = some (wF (nw (100 + ti) n n σ) (fid 16 f) m (sz σ)) := if_pos ek
  rw [ep]
  refine hx_bs (hK _ ⟨⟨?_, ?_, ?_⟩, fun b hb => ?_, ek, fun j t hj => ?_, fun g => ?_, fun b hb => ?_⟩)
  · show sz σ + 1 = _
    rw [List.length_append, List.length_singleton]
    omega
  · show sc σ + 1 = _
    rw [List.length_append, List.length_singleton]
    omega
  · show sw σ + n = _
    rw [lsum_app]
    show sw σ + n = sw σ0 + 83 + (lsum L + n)
    omega
  · obtain ⟨q1, q2, q3, q4, q5, q6, q7⟩ := h4 b hb
    have hb2 : b ≠ sz σ := by omega
    refine ⟨(if_neg hb2).trans q1, (if_neg hb2).trans q2, fun g => ?_, fun g => (if_neg hb2).trans (q4 g), fun i => (if_neg hb2).trans (q5 i), fun i => (if_neg hb2).trans (q6 i), fun i => (if_neg hb2).trans (q7 i)⟩
    show (if g = fid 16 f ∧ b = m then sz σ else if b = sz σ then 0 else sF σ g b) = _
    rw [if_neg (fun z => by omega), if_neg hb2]
    exact q3 g
  · by_cases cj : j = L.length
    · subst cj
      rw [List.getElem?_append_right (Nat.le_refl _), Nat.sub_self] at hj
      cases hj
      have e : m + (L.length + 1) = sz σ := by omega
      rw [e]
      refine ⟨⟨?_, ?_, ?_⟩, fun i => ?_⟩
      · show (if fid 16 f = fid 16 f ∧ m = m then sz σ else _) = sz σ
        rw [if_pos ⟨rfl, rfl⟩]
      · show (if sz σ = sz σ then 100 + ti else _) = _
        rw [if_pos rfl]
      · show (if sz σ = sz σ then n else _) = _
        rw [if_pos rfl]
      · show (if sz σ = sz σ then 0 else _) = _
        rw [if_pos rfl]
    · have hjl := (List.getElem?_eq_some_iff.mp hj).1
      rw [List.length_append, List.length_singleton] at hjl
      rw [List.getElem?_append_left (by omega)] at hj
      obtain ⟨⟨q1, q2, q3⟩, q4⟩ := h6 j t hj
      have hne : m + (j + 1) ≠ sz σ := by omega
      refine ⟨⟨?_, (if_neg hne).trans q2, (if_neg hne).trans q3⟩, fun i => (if_neg hne).trans (q4 i)⟩
      show (if fid 16 t.2.2 = fid 16 f ∧ m = m then sz σ else if m = sz σ then 0 else sF σ (fid 16 t.2.2) m) = _
      rw [if_neg (fun z => hf t (List.mem_of_getElem? hj) (by have := z.1; unfold fid at this; omega)), if_neg (by omega)]
      exact q1
  · show (if m = sz σ then 0 else sI σ (fid 16 g) m) = _
    rw [if_neg (by omega)]
    exact h7 g
  · have hb2 : sz σ + 1 ≤ b := hb
    show (if b = sz σ then 100 + ti else sK σ b) = _
    rw [if_neg (by omega)]
    exact h8 b (by omega)
theorem ini_i {m f : Nat} {x : Int32} {σ0 σ : St} {L : Lst} {I : List Nat} {β : Type} {k : St → Option (St × β)} {P : St → β → Prop} (hx : x = iz (-1)) (h : Stg m σ0 L I σ) (hK : ∀ σ', Stg m σ0 L (f :: I) σ' → Hx (k σ') P) : Hx (Option.bind (pI σ 16 f m x) k) P := by
  obtain ⟨⟨h1, h2, h3⟩, h4, h5, h6, h7, h8⟩ := h
  have ep : pI σ 16 f m x = some (wI σ (fid 16 f) m x) := if_pos h5
  rw [ep]
  refine hx_bs (hK _ ⟨⟨h1, h2, h3⟩, fun b hb => ?_, h5, h6, fun g => ?_, h8⟩)
  · obtain ⟨q1, q2, q3, q4, q5⟩ := h4 b hb
    refine ⟨q1, q2, q3, fun g => ?_, q5⟩
    show (if g = fid 16 f ∧ b = m then x else sI σ g b) = _
    rw [if_neg (fun z => by omega)]
    exact q4 g
  · show (if fid 16 g = fid 16 f ∧ m = m then x else sI σ (fid 16 g) m) = _
    by_cases c : g = f
    · rw [if_pos ⟨by rw [c], rfl⟩, if_pos (by rw [c]; exact List.mem_cons_self), hx]
    · rw [if_neg (fun z => c (by have := z.1; unfold fid at this; omega)), h7 g]
      by_cases d : g ∈ I
      · rw [if_pos d, if_pos (List.mem_cons_of_mem _ d)]
      · rw [if_neg d, if_neg (fun z => by
          rcases List.mem_cons.mp z with q | q
          · exact c q
          · exact d q)]

def RfL : Lst := [(100, 15000, 1), (100, 15, 2), (100, 12600, 3), (100, 201600, 4), (100, 200, 7), (100, 12000, 17), (100, 12000, 18), (100, 12000, 19), (100, 12000, 20), (100, 600, 22), (100, 600, 23), (100, 600, 24), (100, 210, 26), (100, 210, 27), (100, 210, 28), (100, 210, 29), (100, 4, 36), (100, 30, 37), (100, 30, 38), (100, 30, 39), (102, 30, 42), (100, 2000, 47), (100, 200, 48), (100, 200, 49), (100, 200, 50), (100, 40, 51), (100, 40, 52), (100, 40, 53), (100, 40, 54), (100, 30, 58), (100, 30, 59), (100, 30, 60), (102, 20, 63), (100, 200, 64), (100, 30, 66), (100, 150, 67), (100, 3, 68), (100, 252, 69), (100, 5040, 70), (100, 5040, 71), (100, 10, 74), (100, 1200, 75), (100, 300, 76), (100, 8, 82)]
theorem Stg.ms {m : Nat} {σ0 σ : St} {I : List Nat} (h : Stg m σ0 RfL I σ) : MS σ m := by
  have q := fun j t (hj : RfL[j]? = some t) => (h.2.2.2.1 j t hj).1
  exact ⟨h.2.2.1, q 0 _ rfl, q 1 _ rfl, q 2 _ rfl, q 3 _ rfl, q 4 _ rfl, q 5 _ rfl, q 6 _ rfl, q 7 _ rfl, q 8 _ rfl, q 9 _ rfl, q 10 _ rfl, q 11 _ rfl, q 12 _ rfl, q 13 _ rfl, q 14 _ rfl, q 15 _ rfl, q 16 _ rfl, q 17 _ rfl, q 18 _ rfl, q 19 _ rfl, q 20 _ rfl, q 21 _ rfl, q 22 _ rfl, q 23 _ rfl, q 24 _ rfl, q 25 _ rfl, q 26 _ rfl, q 27 _ rfl, q 28 _ rfl, q 29 _ rfl, q 30 _ rfl, q 31 _ rfl, q 32 _ rfl, q 33 _ rfl, q 34 _ rfl, q 35 _ rfl, q 36 _ rfl, q 37 _ rfl, q 38 _ rfl, q 39 _ rfl, q 40 _ rfl, q 41 _ rfl, q 42 _ rfl, q 43 _ rfl⟩
theorem Stg.z {m : Nat} {σ0 σ : St} {I : List Nat} (h : Stg m σ0 RfL I σ) {a : Nat} (ha : 1 ≤ a ∧ a ≤ 44) (i : Nat) : sA σ (m + a) i = nI 0 := by
  obtain ⟨j, rfl⟩ : ∃ j, a = j + 1 := ⟨a - 1, by omega⟩
  have hl : RfL.length = 44 := rfl
  exact (h.2.2.2.1 j _ (List.getElem?_eq_getElem (by omega))).2 i

theorem rf_init_st {m : Nat} {σ0 σ : St} {P : St → Unit → Prop} (h : Stg m σ0 [] [] σ) (hm0 : 0 < m) (hK : ∀ σ', Stg m σ0 RfL [45, 44, 43, 9] σ' → Hx (Option.bind (pI σ' 16 5 m (nI 600)) fun σ138 => Option.bind (ckK σ138 17 m) fun _ => cb (fX12_keepsWhole σ138 m (nI 0)) fun σ139 v140 => Option.bind (pI σ139 16 6 m v140) fun σ142 => Option.bind (gI σ142 16 6 m) fun v143 => Option.bind (pI σ142 16 57 m v143) fun σ144 => fX12_init_425 FU σ144 m (nI 0)) P) : Hx (fX12_init σ m) P := by
  unfold fX12_init
  have e0 : ckP (decide (¬ m = 0)) = some () := by
    unfold ckP
    rw [if_pos (by rw [decide_eq_true_iff]; omega)]
  rw [e0]
  refine hx_bs ?_
  refine ini_a (ti := 0) (n := 15000) (f := 1) rfl (by omega) h (by decide) (fun σ1 h1 => ?_)
  clear h
  have h := h1
  clear h1
  refine ini_a (ti := 0) (n := 15) (f := 2) rfl (by omega) h (by decide) (fun σ2 h2 => ?_)
  clear h
  have h := h2
  clear h2
  refine ini_a (ti := 0) (n := 12600) (f := 3) rfl (by omega) h (by decide) (fun σ3 h3 => ?_)
  clear h
  have h := h3
  clear h3
  refine ini_a (ti := 0) (n := 201600) (f := 4) rfl (by omega) h (by decide) (fun σ4 h4 => ?_)
  clear h
  have h := h4
  clear h4
  refine ini_a (ti := 0) (n := 200) (f := 7) rfl (by omega) h (by decide) (fun σ5 h5 => ?_)
  clear h
  have h := h5
  clear h5
  refine ini_i (f := 9) rfl h (fun σ6 h6 => ?_)
  clear h
  have h := h6
  clear h6
  refine ini_a (ti := 0) (n := 12000) (f := 17) rfl (by omega) h (by decide) (fun σ7 h7 => ?_)
  clear h
  have h := h7
  clear h7
  refine ini_a (ti := 0) (n := 12000) (f := 18) rfl (by omega) h (by decide) (fun σ8 h8 => ?_)
  clear h
  have h := h8
  clear h8
  refine ini_a (ti := 0) (n := 12000) (f := 19) rfl (by omega) h (by decide) (fun σ9 h9 => ?_)
  clear h
  have h := h9
  clear h9
  refine ini_a (ti := 0) (n := 12000) (f := 20) rfl (by omega) h (by decide) (fun σ10 h10 => ?_)
  clear h
  have h := h10
  clear h10
  refine ini_a (ti := 0) (n := 600) (f := 22) rfl (by omega) h (by decide) (fun σ11 h11 => ?_)
  clear h
  have h := h11
  clear h11
  refine ini_a (ti := 0) (n := 600) (f := 23) rfl (by omega) h (by decide) (fun σ12 h12 => ?_)
  clear h
  have h := h12
  clear h12
  refine ini_a (ti := 0) (n := 600) (f := 24) rfl (by omega) h (by decide) (fun σ13 h13 => ?_)
  clear h
  have h := h13
  clear h13
  refine ini_a (ti := 0) (n := 210) (f := 26) rfl (by omega) h (by decide) (fun σ14 h14 => ?_)
  clear h
  have h := h14
  clear h14
  refine ini_a (ti := 0) (n := 210) (f := 27) rfl (by omega) h (by decide) (fun σ15 h15 => ?_)
  clear h
  have h := h15
  clear h15
  refine ini_a (ti := 0) (n := 210) (f := 28) rfl (by omega) h (by decide) (fun σ16 h16 => ?_)
  clear h
  have h := h16
  clear h16
  refine ini_a (ti := 0) (n := 210) (f := 29) rfl (by omega) h (by decide) (fun σ17 h17 => ?_)
  clear h
  have h := h17
  clear h17
  refine ini_a (ti := 0) (n := 4) (f := 36) rfl (by omega) h (by decide) (fun σ18 h18 => ?_)
  clear h
  have h := h18
  clear h18
  refine ini_a (ti := 0) (n := 30) (f := 37) rfl (by omega) h (by decide) (fun σ19 h19 => ?_)
  clear h
  have h := h19
  clear h19
  refine ini_a (ti := 0) (n := 30) (f := 38) rfl (by omega) h (by decide) (fun σ20 h20 => ?_)
  clear h
  have h := h20
  clear h20
  refine ini_a (ti := 0) (n := 30) (f := 39) rfl (by omega) h (by decide) (fun σ21 h21 => ?_)
  clear h
  have h := h21
  clear h21
  refine ini_a (ti := 2) (n := 30) (f := 42) rfl (by omega) h (by decide) (fun σ22 h22 => ?_)
  clear h
  have h := h22
  clear h22
  refine ini_i (f := 43) rfl h (fun σ23 h23 => ?_)
  clear h
  have h := h23
  clear h23
  refine ini_i (f := 44) rfl h (fun σ24 h24 => ?_)
  clear h
  have h := h24
  clear h24
  refine ini_i (f := 45) rfl h (fun σ25 h25 => ?_)
  clear h
  have h := h25
  clear h25
  refine ini_a (ti := 0) (n := 2000) (f := 47) rfl (by omega) h (by decide) (fun σ26 h26 => ?_)
  clear h
  have h := h26
  clear h26
  refine ini_a (ti := 0) (n := 200) (f := 48) rfl (by omega) h (by decide) (fun σ27 h27 => ?_)
  clear h
  have h := h27
  clear h27
  refine ini_a (ti := 0) (n := 200) (f := 49) rfl (by omega) h (by decide) (fun σ28 h28 => ?_)
  clear h
  have h := h28
  clear h28
  refine ini_a (ti := 0) (n := 200) (f := 50) rfl (by omega) h (by decide) (fun σ29 h29 => ?_)
  clear h
  have h := h29
  clear h29
  refine ini_a (ti := 0) (n := 40) (f := 51) rfl (by omega) h (by decide) (fun σ30 h30 => ?_)
  clear h
  have h := h30
  clear h30
  refine ini_a (ti := 0) (n := 40) (f := 52) rfl (by omega) h (by decide) (fun σ31 h31 => ?_)
  clear h
  have h := h31
  clear h31
  refine ini_a (ti := 0) (n := 40) (f := 53) rfl (by omega) h (by decide) (fun σ32 h32 => ?_)
  clear h
  have h := h32
  clear h32
  refine ini_a (ti := 0) (n := 40) (f := 54) rfl (by omega) h (by decide) (fun σ33 h33 => ?_)
  clear h
  have h := h33
  clear h33
  refine ini_a (ti := 0) (n := 30) (f := 58) rfl (by omega) h (by decide) (fun σ34 h34 => ?_)
  clear h
  have h := h34
  clear h34
  refine ini_a (ti := 0) (n := 30) (f := 59) rfl (by omega) h (by decide) (fun σ35 h35 => ?_)
  clear h
  have h := h35
  clear h35
  refine ini_a (ti := 0) (n := 30) (f := 60) rfl (by omega) h (by decide) (fun σ36 h36 => ?_)
  clear h
  have h := h36
  clear h36
  refine ini_a (ti := 2) (n := 20) (f := 63) rfl (by omega) h (by decide) (fun σ37 h37 => ?_)
  clear h
  have h := h37
  clear h37
  refine ini_a (ti := 0) (n := 200) (f := 64) rfl (by omega) h (by decide) (fun σ38 h38 => ?_)
  clear h
  have h := h38
  clear h38
  refine ini_a (ti := 0) (n := 30) (f := 66) rfl (by omega) h (by decide) (fun σ39 h39 => ?_)
  clear h
  have h := h39
  clear h39
  refine ini_a (ti := 0) (n := 150) (f := 67) rfl (by omega) h (by decide) (fun σ40 h40 => ?_)
  clear h
  have h := h40
  clear h40
  refine ini_a (ti := 0) (n := 3) (f := 68) rfl (by omega) h (by decide) (fun σ41 h41 => ?_)
  clear h
  have h := h41
  clear h41
  refine ini_a (ti := 0) (n := 252) (f := 69) rfl (by omega) h (by decide) (fun σ42 h42 => ?_)
  clear h
  have h := h42
  clear h42
  refine ini_a (ti := 0) (n := 5040) (f := 70) rfl (by omega) h (by decide) (fun σ43 h43 => ?_)
  clear h
  have h := h43
  clear h43
  refine ini_a (ti := 0) (n := 5040) (f := 71) rfl (by omega) h (by decide) (fun σ44 h44 => ?_)
  clear h
  have h := h44
  clear h44
  refine ini_a (ti := 0) (n := 10) (f := 74) rfl (by omega) h (by decide) (fun σ45 h45 => ?_)
  clear h
  have h := h45
  clear h45
  refine ini_a (ti := 0) (n := 1200) (f := 75) rfl (by omega) h (by decide) (fun σ46 h46 => ?_)
  clear h
  have h := h46
  clear h46
  refine ini_a (ti := 0) (n := 300) (f := 76) rfl (by omega) h (by decide) (fun σ47 h47 => ?_)
  clear h
  have h := h47
  clear h47
  refine ini_a (ti := 0) (n := 8) (f := 82) rfl (by omega) h (by decide) (fun σ48 h48 => ?_)
  clear h
  have h := h48
  clear h48
  exact hK _ h
