/-! ===== the class is made: stages, told by lists ===== -/
def lk2 {α : Type} (l : List (Nat × Nat × α)) (a b : Nat) : Option α := (l.find? fun e => e.1 == a && e.2.1 == b).map (·.2.2)
theorem lk2_c {α : Type} {l : List (Nat × Nat × α)} {a b a' b' : Nat} {v : α} : lk2 ((a, b, v) :: l) a' b' = if a' = a ∧ b' = b then some v else lk2 l a' b' := by
  unfold lk2
  rw [List.find?_cons]
  by_cases c : a' = a ∧ b' = b
  · rw [if_pos c]
    simp [c.1, c.2]
  · rw [if_neg c]
    have : (a == a' && b == b') = false := by
      simp only [Bool.and_eq_false_iff, beq_eq_false_iff_ne, ne_eq]
      by_cases d : a = a'
      · exact Or.inr (fun z => c ⟨d.symm, z.symm⟩)
      · exact Or.inl d
    simp only [this]
theorem lk2_2 {α : Type} {l : List (Nat × Nat × α)} {N a : Nat} (h : ∀ e ∈ l, e.2.1 < N) : lk2 l a N = none := by
  unfold lk2
  rw [List.find?_eq_none.mpr]
  · rfl
  · intro e he
    have := h e he
    simp only [Bool.and_eq_true, beq_iff_eq, not_and]
    omega
theorem lk2_1 {α : Type} {l : List (Nat × Nat × α)} {N i : Nat} (h : ∀ e ∈ l, e.1 < N) : lk2 l N i = none := by
  unfold lk2
  rw [List.find?_eq_none.mpr]
  · rfl
  · intro e he
    have := h e he
    simp only [Bool.and_eq_true, beq_iff_eq, not_and]
    omega
def lkK (l : List (Nat × Nat × Nat)) (o : Nat) : Nat × Nat := match l.find? fun e => e.1 == o with
  | none => (0, 0)
  | some e => e.2
theorem lkK_c {l : List (Nat × Nat × Nat)} {o o' : Nat} {v : Nat × Nat} : lkK ((o, v) :: l) o' = if o' = o then v else lkK l o' := by
  unfold lkK
  rw [List.find?_cons]
  by_cases c : o' = o
  · rw [if_pos c]; simp [c]
  · rw [if_neg c]
    have : (o == o') = false := by simp only [beq_eq_false_iff_ne, ne_eq]; exact fun z => c z.symm
    simp only [this]
def rl (x : Nat) : Option Nat → Nat
  | none => 0
  | some t => x + t
def il : Option Int → Int32
  | none => 0
  | some v => iz v
abbrev L3 := List (Nat × Nat × Nat)
abbrev LI := List (Nat × Nat × Int)
def Cst (x : Nat) (σ0 : St) (N W : Nat) (K F : L3) (I A : LI) (Q : L3) (σ : St) : Prop :=
  (sz σ = x + N ∧ sc σ = sc σ0 + N ∧ sw σ = sw σ0 + W) ∧ Sbl x σ0 σ ∧ (∀ b, x + N ≤ b → sK σ b = 0) ∧
  ((∀ o, o < N → sK σ (x + o) = (lkK K o).1 ∧ sN σ (x + o) = (lkK K o).2) ∧ (∀ f o, o < N → sF σ f (x + o) = rl x (lk2 F f o)) ∧ (∀ f o, o < N → sI σ f (x + o) = il (lk2 I f o)) ∧ (∀ o i, o < N → sA σ (x + o) i = il (lk2 A o i)) ∧ ∀ o i, o < N → sQ σ (x + o) i = rl x (lk2 Q o i)) ∧
  ((∀ e ∈ F, e.2.1 < N) ∧ (∀ e ∈ I, e.2.1 < N) ∧ (∀ e ∈ A, e.1 < N) ∧ ∀ e ∈ Q, e.1 < N) ∧ 0 < x
theorem Sbl.tr {m : Nat} {σ0 σ σ' : St} (h : Sbl m σ0 σ) (h' : Sbl m σ σ') : Sbl m σ0 σ' := by
  intro b hb
  obtain ⟨a1, a2, a3, a4, a5, a6, a7⟩ := h b hb
  obtain ⟨b1, b2, b3, b4, b5, b6, b7⟩ := h' b hb
  exact ⟨b1.trans a1, b2.trans a2, fun f => (b3 f).trans (a3 f), fun f => (b4 f).trans (a4 f), fun f => (b5 f).trans (a5 f), fun f => (b6 f).trans (a6 f), fun f => (b7 f).trans (a7 f)⟩
theorem cs_nw {x N W κ n w : Nat} {σ0 σ : St} {K F Q : L3} {I A : LI} (h : Cst x σ0 N W K F I A Q σ) : Cst x σ0 (N + 1) (W + w) ((N, κ, n) :: K) F I A Q (nw κ n w σ) := by
  obtain ⟨⟨z1, z2, z3⟩, hb, hout, ⟨hK, hF, hI, hA, hQ⟩, ⟨bF, bI, bA, bQ⟩, hx⟩ := h
  have ne : ∀ o, o < N → x + o ≠ sz σ := fun o ho => by omega
  refine ⟨⟨by show sz σ + 1 = _; omega, by show sc σ + 1 = _; omega, by show sw σ + w = _; omega⟩, hb.tr (fun b hbx => ?_), fun b hbx => ?_, ⟨fun o ho => ?_, fun f o ho => ?_, fun f o ho => ?_, fun o i ho => ?_, fun o i ho => ?_⟩, ⟨fun e he => by have := bF e he; omega, fun e he => by have := bI e he; omega, fun e he => by have := bA e he; omega, fun e he => by have := bQ e he; omega⟩, hx⟩
  · have e : b ≠ sz σ := by omega
    exact ⟨if_neg e, if_neg e, fun _ => if_neg e, fun _ => if_neg e, fun _ => if_neg e, fun _ => if_neg e, fun _ => if_neg e⟩
  · exact (if_neg (by omega)).trans (hout b (by omega))
  · rw [lkK_c]
    by_cases c : o = N
    · subst c
      rw [if_pos rfl]
      exact ⟨if_pos z1.symm, if_pos z1.symm⟩
    · rw [if_neg c]
      obtain ⟨h1, h2⟩ := hK o (by omega)
      exact ⟨(if_neg (ne o (by omega))).trans h1, (if_neg (ne o (by omega))).trans h2⟩
  · by_cases c : o = N
    · subst c
      rw [lk2_2 bF]
      exact if_pos z1.symm
    · exact (if_neg (ne o (by omega))).trans (hF f o (by omega))
  · by_cases c : o = N
    · subst c
      rw [lk2_2 bI]
      exact if_pos z1.symm
    · exact (if_neg (ne o (by omega))).trans (hI f o (by omega))
  · by_cases c : o = N
    · subst c
      rw [lk2_1 bA]
      exact if_pos z1.symm
    · exact (if_neg (ne o (by omega))).trans (hA o i (by omega))
  · by_cases c : o = N
    · subst c
      rw [lk2_1 bQ]
      exact if_pos z1.symm
    · exact (if_neg (ne o (by omega))).trans (hQ o i (by omega))
theorem cs_wF {x N W f o t : Nat} {σ0 σ : St} {K F Q : L3} {I A : LI} (h : Cst x σ0 N W K F I A Q σ) (ho : o < N) : Cst x σ0 N W K ((f, o, t) :: F) I A Q (wF σ f (x + o) (x + t)) := by
  obtain ⟨hz, hb, hout, ⟨hK, hF, hI, hA, hQ⟩, ⟨bF, bI, bA, bQ⟩, hx⟩ := h
  refine ⟨hz, hb.tr (fun b hbx => ⟨rfl, rfl, fun f' => ?_, fun _ => rfl, fun _ => rfl, fun _ => rfl, fun _ => rfl⟩), hout, ⟨hK, fun f' o' ho' => ?_, hI, hA, hQ⟩, ⟨fun e he => ?_, bI, bA, bQ⟩, hx⟩
  · exact if_neg (fun z => by have := z.2; omega)
  · rw [lk2_c]
    by_cases c : f' = f ∧ o' = o
    · rw [if_pos c]
      exact if_pos ⟨c.1, by rw [c.2]⟩
    · rw [if_neg c]
      exact (if_neg (fun z => c ⟨z.1, by have := z.2; omega⟩)).trans (hF f' o' ho')
  · rcases List.mem_cons.mp he with rfl | he
    · exact ho
    · exact bF e he
theorem cs_wI {x N W f o : Nat} {v : Int} {σ0 σ : St} {K F Q : L3} {I A : LI} (h : Cst x σ0 N W K F I A Q σ) (ho : o < N) : Cst x σ0 N W K F ((f, o, v) :: I) A Q (wI σ f (x + o) (iz v)) := by
  obtain ⟨hz, hb, hout, ⟨hK, hF, hI, hA, hQ⟩, ⟨bF, bI, bA, bQ⟩, hx⟩ := h
  refine ⟨hz, hb.tr (fun b hbx => ⟨rfl, rfl, fun _ => rfl, fun f' => ?_, fun _ => rfl, fun _ => rfl, fun _ => rfl⟩), hout, ⟨hK, hF, fun f' o' ho' => ?_, hA, hQ⟩, ⟨bF, fun e he => ?_, bA, bQ⟩, hx⟩
  · exact if_neg (fun z => by have := z.2; omega)
  · rw [lk2_c]
    by_cases c : f' = f ∧ o' = o
    · rw [if_pos c]
      exact if_pos ⟨c.1, by rw [c.2]⟩
    · rw [if_neg c]
      exact (if_neg (fun z => c ⟨z.1, by have := z.2; omega⟩)).trans (hI f' o' ho')
  · rcases List.mem_cons.mp he with rfl | he
    · exact ho
    · exact bI e he
theorem cs_wA {x N W o j : Nat} {v : Int} {σ0 σ : St} {K F Q : L3} {I A : LI} (h : Cst x σ0 N W K F I A Q σ) (ho : o < N) : Cst x σ0 N W K F I ((o, j, v) :: A) Q (wA σ (x + o) j (iz v)) := by
  obtain ⟨hz, hb, hout, ⟨hK, hF, hI, hA, hQ⟩, ⟨bF, bI, bA, bQ⟩, hx⟩ := h
  refine ⟨hz, hb.tr (fun b hbx => ⟨rfl, rfl, fun _ => rfl, fun _ => rfl, fun i => ?_, fun _ => rfl, fun _ => rfl⟩), hout, ⟨hK, hF, hI, fun o' i ho' => ?_, hQ⟩, ⟨bF, bI, fun e he => ?_, bQ⟩, hx⟩
  · exact if_neg (fun z => by have := z.1; omega)
  · rw [lk2_c]
    by_cases c : o' = o ∧ i = j
    · rw [if_pos c]
      exact if_pos ⟨by rw [c.1], c.2⟩
    · rw [if_neg c]
      exact (if_neg (fun z => c ⟨by have := z.1; omega, z.2⟩)).trans (hA o' i ho')
  · rcases List.mem_cons.mp he with rfl | he
    · exact ho
    · exact bA e he
theorem cs_wQ {x N W o j t : Nat} {σ0 σ : St} {K F Q : L3} {I A : LI} (h : Cst x σ0 N W K F I A Q σ) (ho : o < N) : Cst x σ0 N W K F I A ((o, j, t) :: Q) (wQ σ (x + o) j (x + t)) := by
  obtain ⟨hz, hb, hout, ⟨hK, hF, hI, hA, hQ⟩, ⟨bF, bI, bA, bQ⟩, hx⟩ := h
  refine ⟨hz, hb.tr (fun b hbx => ⟨rfl, rfl, fun _ => rfl, fun _ => rfl, fun _ => rfl, fun _ => rfl, fun i => ?_⟩), hout, ⟨hK, hF, hI, hA, fun o' i ho' => ?_⟩, ⟨bF, bI, bA, fun e he => ?_⟩, hx⟩
  · exact if_neg (fun z => by have := z.1; omega)
  · rw [lk2_c]
    by_cases c : o' = o ∧ i = j
    · rw [if_pos c]
      exact if_pos ⟨by rw [c.1], c.2⟩
    · rw [if_neg c]
      exact (if_neg (fun z => c ⟨by have := z.1; omega, z.2⟩)).trans (hQ o' i ho')
  · rcases List.mem_cons.mp he with rfl | he
    · exact ho
    · exact bQ e he
section
variable {x N W : Nat} {σ0 σ : St} {K F Q : L3} {I A : LI} {β : Type} {P : St → β → Prop}
/-- an array is made -/
theorem ca_A (h : Cst x σ0 N W K F I A Q σ) {ti m : Nat} {k : St → Nat → Option (St × β)} (hm : m ≤ 60000000) (hk : ∀ σ', Cst x σ0 (N + 1) (W + m) ((N, 100 + ti, m) :: K) F I A Q σ' → Hx (k σ' (x + N)) P) : Hx (Option.bind (nwA ti (nI m) σ) fun σ2 => nm (sz σ) fun a3 => k σ2 a3) P := by
  rw [nwA_k hm, h.1.1]
  exact hx_bs (hx_nm (hk _ (cs_nw h)))
/-- an object is made -/
theorem ca_N (h : Cst x σ0 N W K F I A Q σ) {κ n w : Nat} {k : St → Nat → Option (St × β)} (hk : ∀ σ', Cst x σ0 (N + 1) (W + w) ((N, κ, n) :: K) F I A Q σ' → Hx (k σ' (x + N)) P) : Hx (nm (nw κ n w σ) fun σ2 => nm (sz σ) fun a3 => k σ2 a3) P := by
  rw [h.1.1]
  exact hx_nm (hx_nm (hk _ (cs_nw h)))
theorem ca_F (h : Cst x σ0 N W K F I A Q σ) {ci f o t : Nat} {k : St → Option (St × β)} (ho : o < N) (hκ : (lkK K o).1 = ci + 1) (hk : ∀ σ', Cst x σ0 N W K ((fid ci f, o, t) :: F) I A Q σ' → Hx (k σ') P) : Hx (Option.bind (pF σ ci f (x + o) (x + t)) k) P := by
  rw [sm_pF ((h.2.2.2.1.1 o ho).1.trans hκ)]
  exact hx_bs (hk _ (cs_wF h ho))
theorem ca_I (h : Cst x σ0 N W K F I A Q σ) {ci f o : Nat} {v : Int} {k : St → Option (St × β)} (ho : o < N) (hκ : (lkK K o).1 = ci + 1) (hk : ∀ σ', Cst x σ0 N W K F ((fid ci f, o, v) :: I) A Q σ' → Hx (k σ') P) : Hx (Option.bind (pI σ ci f (x + o) (iz v)) k) P := by
  rw [sm_pI ((h.2.2.2.1.1 o ho).1.trans hκ)]
  exact hx_bs (hk _ (cs_wI h ho))
theorem ca_g (h : Cst x σ0 N W K F I A Q σ) {ci f o t : Nat} {k : Nat → Option (St × β)} (ho : o < N) (hκ : (lkK K o).1 = ci + 1) (hf : lk2 F (fid ci f) o = some t) (hk : Hx (k (x + t)) P) : Hx (Option.bind (gF σ ci f (x + o)) k) P := by
  rw [sm_gF ((h.2.2.2.1.1 o ho).1.trans hκ), h.2.2.2.1.2.1 _ o ho, hf]
  exact hx_bs hk
theorem ca_k (h : Cst x σ0 N W K F I A Q σ) {κ o : Nat} {k : Unit → Option (St × β)} (ho : o < N) (hκ : (lkK K o).1 = κ) (hk : Hx (k ()) P) : Hx (Option.bind (ckK σ κ (x + o)) k) P := by
  rw [sm_ckK ((h.2.2.2.1.1 o ho).1.trans hκ)]
  exact hx_bs hk
theorem ca_l (h : Cst x σ0 N W K F I A Q σ) {o κ n : Nat} {k : Int32 → Option (St × β)} (ho : o < N) (hκ : lkK K o = (κ, n)) (h2 : 100 ≤ κ ∧ κ < 109) (hk : Hx (k (nI n)) P) : Hx (Option.bind (aln σ (x + o)) k) P := by
  obtain ⟨h3, h4⟩ := h.2.2.2.1.1 o ho
  rw [hκ] at h3 h4
  rw [sm_aln h3 h2, h4]
  exact hx_bs hk
theorem ca_q (h : Cst x σ0 N W K F I A Q σ) {ti κ o j n t : Nat} {k : St → Option (St × β)} (ho : o < N) (hκ : lkK K o = (100 + ti, n)) (hj : j < n) (hn : n ≤ 60000) (ht : t < N) (h2 : (lkK K t).1 = κ) (hst : ∀ σ : St, sK σ (x + o) = 100 + ti → sN σ (x + o) = n → sK σ (x + t) = κ → stQ σ ti κ (x + o) (nI j) (x + t) = some (wQ σ (x + o) j (x + t))) (hk : ∀ σ', Cst x σ0 N W K F I A ((o, j, t) :: Q) σ' → Hx (k σ') P) : Hx (Option.bind (stQ σ ti κ (x + o) (nI j) (x + t)) k) P := by
  obtain ⟨h3, h4⟩ := h.2.2.2.1.1 o ho
  rw [hκ] at h3 h4
  rw [hst σ h3 h4 ((h.2.2.2.1.1 t ht).1.trans h2)]
  exact hx_bs (hk _ (cs_wQ h ho))
/-- a Nat is made -/
theorem ca_nat (h : Cst x σ0 N W K F I A Q σ) {k : Nat → St → Unit → Option (St × β)} (hk : ∀ σ', Cst x σ0 (N + 2) (W + 2 + 4) ((N + 1, 100, 4) :: (N, 8, 0) :: K) ((fid 7 0, N, N + 1) :: F) I A Q σ' → Hx (k (x + N) σ' ()) P) : Hx (nm (nw 8 0 2 σ) fun σ2 => nm (sz σ) fun a3 => Option.bind (ckK σ2 8 a3) fun _ => cb (fX3_init σ2 a3) (k a3)) P := by
  have hx := h.2.2.2.2.2
  refine ca_N h (fun σ1 h1 => ?_)
  refine ca_k h1 (by omega) (by rw [lkK_c, if_pos rfl]) ?_
  rw [n_fX3_init, show ckP (decide (¬ x + N = 0)) = some () by rw [decide_eq_true (show ¬ x + N = 0 by omega)]; rfl]
  have key : Hx (Option.bind (some ()) fun _ => Option.bind (nwA 0 (nI 4) σ1) fun σ2 => nm (sz σ1) fun a3 => Option.bind (pF σ2 7 0 (x + N) a3) fun σ4 => some (σ4, ())) (fun σ' (_ : Unit) => Cst x σ0 (N + 2) (W + 2 + 4) ((N + 1, 100, 4) :: (N, 8, 0) :: K) ((fid 7 0, N, N + 1) :: F) I A Q σ') := by
    refine hx_bs (ca_A h1 (by omega) (fun σ2 h2 => ?_))
    refine ca_F h2 (by omega) (by rw [lkK_c, if_neg (by omega), lkK_c, if_pos rfl]) (fun σ3 h3 => Hx.ret ?_)
    exact h3
  exact Hx.bd key (fun σ' _ g => hk σ' g)
theorem ca_one (h : Cst x σ0 N W K F I A Q σ) {o t : Nat} {k : St → Unit → Option (St × β)} (ho : o < N) (hκ : (lkK K o).1 = 8) (hf : lk2 F (fid 7 0) o = some t) (ht : t < N) (hκ2 : lkK K t = (100, 4)) (hk : ∀ σ', Cst x σ0 N W K F ((fid 7 1, o, 1) :: I) ((t, 1, 0) :: (t, 0, 1) :: A) Q σ' → Hx (k σ' ()) P) : Hx (cb (fX3_setSmall σ (x + o) (nJ 1)) k) P := by
  have key : Hx (fX3_setSmall σ (x + o) (nJ 1)) (fun σ' (_ : Unit) => Cst x σ0 N W K F ((fid 7 1, o, 1) :: I) ((t, 1, 0) :: (t, 0, 1) :: A) Q σ') := by
    have st : ∀ {A : LI} {I : LI} (σ : St), Cst x σ0 N W K F I A Q σ → ∀ j, j < 4 → ∀ v, stI σ (x + t) (nI j) (iz v) = some (wA σ (x + t) j (iz v)) := fun σ h j hj v => by
      obtain ⟨h3, h4⟩ := h.2.2.2.1.1 t ht
      rw [hκ2] at h3 h4
      exact sm_st h3 (by rw [h4]; exact hj) (by omega)
    have ld : ∀ {A : LI} {I : LI} (σ : St), Cst x σ0 N W K F I A Q σ → ∀ j, j < 4 → ldI σ (x + t) (nI j) = some (il (lk2 A t j)) := fun σ h j hj => by
      obtain ⟨h3, h4⟩ := h.2.2.2.1.1 t ht
      rw [hκ2] at h3 h4
      rw [sm_ld h3 (by rw [h4]; exact hj) (by omega), h.2.2.2.1.2.2.2.1 t j ht]
    rw [n_fX3_setSmall]
    refine ca_g h ho hκ hf ?_
    rw [show Int64.toInt32 (nJ 1 - nJ 1 / nJ 1000000000 * nJ 1000000000) = iz 1 by decide, st σ h 0 (by omega)]
    refine hx_bs ?_
    have h1 := cs_wA (j := 0) (v := 1) h ht
    generalize wA σ (x + t) 0 (iz 1) = σ1 at h1 ⊢
    refine ca_g h1 ho hκ hf ?_
    rw [show Int64.toInt32 (nJ 1 / nJ 1000000000) = iz 0 by decide, st σ1 h1 1 (by omega)]
    refine hx_bs ?_
    have h2 := cs_wA (j := 1) (v := 0) h1 ht
    generalize wA σ1 (x + t) 1 (iz 0) = σ2 at h2 ⊢
    refine ca_g h2 ho hκ hf ?_
    rw [ld σ2 h2 1 (by omega), lk2_c, if_pos ⟨rfl, rfl⟩]
    refine hx_bs (Hx.cs (fun _ => ?_) (fun z => absurd (by decide) z))
    refine ca_g h2 ho hκ hf ?_
    rw [ld σ2 h2 0 (by omega), lk2_c, if_neg (by omega), lk2_c, if_pos ⟨rfl, rfl⟩]
    refine hx_bs (Hx.cs (fun z => absurd z (by decide)) (fun _ => ?_))
    rw [n_fX3_setSmall_52, show nI 1 = iz 1 from rfl]
    exact ca_I h2 ho hκ (fun σ3 h3 => Hx.ret h3)
  exact Hx.bd key (fun σ' _ g => hk σ' g)
/-- a fraction is made -/
theorem ca_frac (h : Cst x σ0 N W K F I A Q σ) {k : Nat → St → Unit → Option (St × β)} (hk : ∀ σ', Cst x σ0 (N + 5) (W + 15) ((N + 4, 100, 4) :: (N + 3, 8, 0) :: (N + 2, 100, 4) :: (N + 1, 8, 0) :: (N, 6, 0) :: K) ((fid 5 2, N, N + 3) :: (fid 7 0, N + 3, N + 4) :: (fid 5 1, N, N + 1) :: (fid 7 0, N + 1, N + 2) :: F) ((fid 7 1, N + 3, 1) :: I) ((N + 4, 1, 0) :: (N + 4, 0, 1) :: A) Q σ' → Hx (k (x + N) σ' ()) P) : Hx (nm (nw 6 0 3 σ) fun σ2 => nm (sz σ) fun a3 => Option.bind (ckK σ2 6 a3) fun _ => cb (fX1_init σ2 a3) (k a3)) P := by
  have hx := h.2.2.2.2.2
  refine ca_N h (fun σ1 h1 => ?_)
  refine ca_k h1 (by omega) (by rw [lkK_c, if_pos rfl]) ?_
  have key : Hx (fX1_init σ1 (x + N)) (fun σ' (_ : Unit) => Cst x σ0 (N + 5) (W + 15) ((N + 4, 100, 4) :: (N + 3, 8, 0) :: (N + 2, 100, 4) :: (N + 1, 8, 0) :: (N, 6, 0) :: K) ((fid 5 2, N, N + 3) :: (fid 7 0, N + 3, N + 4) :: (fid 5 1, N, N + 1) :: (fid 7 0, N + 1, N + 2) :: F) ((fid 7 1, N + 3, 1) :: I) ((N + 4, 1, 0) :: (N + 4, 0, 1) :: A) Q σ') := by
    rw [n_fX1_init, show ckP (decide (¬ x + N = 0)) = some () by rw [decide_eq_true (show ¬ x + N = 0 by omega)]; rfl]
    refine hx_bs (ca_nat h1 (k := fun a3 σ4 _ => Option.bind (pF σ4 5 1 (x + N) a3) fun σ7 => nm (nw 8 0 2 σ7) fun σ8 => nm (sz σ7) fun a9 => Option.bind (ckK σ8 8 a9) fun _ => cb (fX3_init σ8 a9) fun σ10 v11 => Option.bind (pF σ10 5 2 (x + N) a9) fun σ13 => Option.bind (gF σ13 5 2 (x + N)) fun v14 => Option.bind (ckK σ13 8 v14) fun _ => cb (fX3_setSmall σ13 v14 (nJ 1)) fun σ15 v16 => some (σ15, (()))) (fun σ2 h2 => ?_))
    refine ca_F h2 (by omega) (by rw [lkK_c, if_neg (by omega), lkK_c, if_neg (by omega), lkK_c, if_pos rfl]) (fun σ3 h3 => ?_)
    refine ca_nat h3 (k := fun a9 σ10 _ => Option.bind (pF σ10 5 2 (x + N) a9) fun σ13 => Option.bind (gF σ13 5 2 (x + N)) fun v14 => Option.bind (ckK σ13 8 v14) fun _ => cb (fX3_setSmall σ13 v14 (nJ 1)) fun σ15 v16 => some (σ15, (()))) (fun σ4 h4 => ?_)
    refine ca_F h4 (by omega) (by rw [lkK_c, if_neg (by omega), lkK_c, if_neg (by omega), lkK_c, if_neg (by omega), lkK_c, if_neg (by omega), lkK_c, if_pos rfl]) (fun σ5 h5 => ?_)
    refine ca_g h5 (by omega) (by rw [lkK_c, if_neg (by omega), lkK_c, if_neg (by omega), lkK_c, if_neg (by omega), lkK_c, if_neg (by omega), lkK_c, if_pos rfl]) (by rw [lk2_c, if_pos ⟨rfl, rfl⟩]) ?_
    refine ca_k h5 (by omega) (by rw [lkK_c, if_neg (by omega), lkK_c, if_pos rfl]) ?_
    refine ca_one h5 (t := N + 1 + 2 + 1) (by omega) (by rw [lkK_c, if_neg (by omega), lkK_c, if_pos rfl]) (by rw [lk2_c, if_neg (fun z => absurd z.1 (by decide)), lk2_c, if_pos ⟨rfl, rfl⟩]) (by omega) (by rw [lkK_c, if_pos rfl]) (fun σ6 h6 => Hx.ret h6)
  exact Hx.bd key (fun σ' _ g => hk σ' g)
end
