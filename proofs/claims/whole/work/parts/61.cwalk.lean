/-! ===== steps of the class' functions ===== -/
theorem na_gF {σ : St} {a l n : Nat} (h : NA σ a l n) : gF σ 7 0 a = some l := (sm_gF h.1).trans (congrArg some h.2.1)
theorem na_gI {σ : St} {a l n : Nat} (h : NA σ a l n) : gI σ 7 1 a = some (sI σ (fid 7 1) a) := sm_gI h.1
theorem na_pI {σ : St} {a l n : Nat} (h : NA σ a l n) (v : Int32) : pI σ 7 1 a v = some (wI σ (fid 7 1) a v) := sm_pI h.1
theorem na_pF {σ : St} {a l n : Nat} (h : NA σ a l n) (v : Nat) : pF σ 7 0 a v = some (wF σ (fid 7 0) a v) := sm_pF h.1
theorem na_ck {σ : St} {a l n : Nat} (h : NA σ a l n) : ckK σ 8 a = some () := sm_ckK h.1
theorem na_aln {σ : St} {a l n : Nat} (h : NA σ a l n) : aln σ l = some (nI n) := (sm_aln h.2.2.1 ⟨by omega, by omega⟩).trans (by rw [h.2.2.2.1])
theorem na_ld {σ : St} {a l n : Nat} (h : NA σ a l n) {j : Nat} (hj : j < n) : ldI σ l (nI j) = some (sA σ l j) := sm_ld h.2.2.1 (by rw [h.2.2.2.1]; exact hj) (by have := h.2.2.2.2; omega)
theorem na_st {σ : St} {a l n : Nat} (h : NA σ a l n) {j : Nat} {v : Int32} (hj : j < n) : stI σ l (nI j) v = some (wA σ l j v) := sm_st h.2.2.1 (by rw [h.2.2.2.1]; exact hj) (by have := h.2.2.2.2; omega)
theorem gF_wA (σ : St) (b i : Nat) (v : Int32) (ci k a : Nat) : gF (wA σ b i v) ci k a = gF σ ci k a := rfl
theorem gF_wI (σ : St) (f b : Nat) (v : Int32) (ci k a : Nat) : gF (wI σ f b v) ci k a = gF σ ci k a := rfl
theorem gI_wA (σ : St) (b i : Nat) (v : Int32) (ci k a : Nat) : gI (wA σ b i v) ci k a = gI σ ci k a := rfl
theorem aln_wA (σ : St) (b i : Nat) (v : Int32) (a : Nat) : aln (wA σ b i v) a = aln σ a := rfl
theorem aln_wI (σ : St) (f b : Nat) (v : Int32) (a : Nat) : aln (wI σ f b v) a = aln σ a := rfl
theorem ckK_wA (σ : St) (b i : Nat) (v : Int32) (κ a : Nat) : ckK (wA σ b i v) κ a = ckK σ κ a := rfl
theorem ckK_wI (σ : St) (f b : Nat) (v : Int32) (κ a : Nat) : ckK (wI σ f b v) κ a = ckK σ κ a := rfl
theorem gI_wI_eq {σ : St} {ci k a : Nat} {v : Int32} (h : sK σ a = ci + 1) : gI (wI σ (fid ci k) a v) ci k a = some v := (sm_gI (σ := wI σ (fid ci k) a v) h).trans (congrArg some sI_wI_eq)
theorem ldI_wA (σ : St) (b i : Nat) (v : Int32) (a : Nat) (j : Int32) : ldI (wA σ b i v) a j = Option.map (fun _ => sA (wA σ b i v) a j.toNatClampNeg) (ldI σ a j) := by
  show (if _ then _ else _) = _
  unfold ldI
  show (if (sK σ a = 100 ∨ sK σ a = 150) ∧ inb j (sN σ a) = true then some (sA (wA σ b i v) a j.toNatClampNeg) else none) = _
  split <;> rfl
theorem stI_wA (σ : St) (b i : Nat) (v : Int32) (a : Nat) (j u : Int32) : stI (wA σ b i v) a j u = Option.map (fun _ => wA (wA σ b i v) a j.toNatClampNeg u) (stI σ a j u) := by
  unfold stI
  show (if sK σ a = 100 ∧ inb j (sN σ a) = true then some (wA (wA σ b i v) a j.toNatClampNeg u) else none) = _
  split <;> rfl
theorem pI_wA (σ : St) (b i : Nat) (v : Int32) (ci k a : Nat) (u : Int32) : pI (wA σ b i v) ci k a u = Option.map (fun _ => wI (wA σ b i v) (fid ci k) a u) (pI σ ci k a u) := by
  unfold pI
  show (if sK σ a = ci + 1 then _ else _) = _
  split <;> rfl
theorem om_some {α β : Type} (f : α → β) (x : α) : Option.map f (some x) = some (f x) := rfl
/-! growth: a new row of limbs for one Nat -/
/-- of the Nat a nothing but its size and the contents of its limbs is written -/
def aF (a l : Nat) (σ σ' : St) : Prop := (sK σ' = sK σ ∧ sF σ' = sF σ ∧ sN σ' = sN σ ∧ sJ σ' = sJ σ ∧ sQ σ' = sQ σ) ∧ (sz σ' = sz σ ∧ sc σ' = sc σ ∧ sw σ' = sw σ) ∧
  (∀ f c, ¬ (f = fid 7 1 ∧ c = a) → sI σ' f c = sI σ f c) ∧ ∀ c, c ≠ l → sA σ' c = sA σ c
theorem aF.rf {a l : Nat} {σ : St} : aF a l σ σ := ⟨⟨rfl, rfl, rfl, rfl, rfl⟩, ⟨rfl, rfl, rfl⟩, fun _ _ _ => rfl, fun _ _ => rfl⟩
theorem aF.tr {a l : Nat} {σ σ1 σ2 : St} (h1 : aF a l σ σ1) (h2 : aF a l σ1 σ2) : aF a l σ σ2 := by
  obtain ⟨⟨a1, a2, a3, a4, a5⟩, ⟨a6, a7, a8⟩, a9, a10⟩ := h1
  obtain ⟨⟨b1, b2, b3, b4, b5⟩, ⟨b6, b7, b8⟩, b9, b10⟩ := h2
  exact ⟨⟨b1.trans a1, b2.trans a2, b3.trans a3, b4.trans a4, b5.trans a5⟩, ⟨b6.trans a6, b7.trans a7, b8.trans a8⟩, fun f c h => (b9 f c h).trans (a9 f c h), fun c h => (b10 c h).trans (a10 c h)⟩
theorem aF.wA {a l j : Nat} {σ : St} {v : Int32} : aF a l σ (wA σ l j v) := ⟨⟨rfl, rfl, rfl, rfl, rfl⟩, ⟨rfl, rfl, rfl⟩, fun _ _ _ => rfl, fun c h => sA_wA_b h⟩
theorem aF.wI {a l : Nat} {σ : St} {v : Int32} : aF a l σ (wI σ (fid 7 1) a v) := ⟨⟨rfl, rfl, rfl, rfl, rfl⟩, ⟨rfl, rfl, rfl⟩, fun f c h => sI_wI_ne h, fun _ _ => rfl⟩
theorem NA.af {a l b m n : Nat} {σ σ' : St} (h : NA σ b m n) (hR : aF a l σ σ') : NA σ' b m n := by
  obtain ⟨⟨a1, a2, a3, a4, a5⟩, _⟩ := hR
  unfold NA
  rw [a1, a2, a3]
  exact h
theorem Nu.af {a l b m w x : Nat} {σ σ' : St} (h : Nu σ b m w x) (hR : aF a l σ σ') (h1 : b ≠ a) (h2 : m ≠ l) : Nu σ' b m w x := by
  obtain ⟨_, _, a9, a10⟩ := hR
  unfold Nu
  rw [a9 _ _ (fun q => h1 q.2), a10 m h2]
  exact h
/-- what the growth of a Nat does: its limbs are the new cell -/
def gR (a n : Nat) (σ σ' : St) : Prop := (sK σ' = (fun b => if b = sz σ then 100 else sK σ b)) ∧ (∀ f b, b ≠ sz σ → ¬ (f = fid 7 0 ∧ b = a) → sF σ' f b = sF σ f b) ∧ sF σ' (fid 7 0) a = sz σ ∧
  (sN σ' = (fun b => if b = sz σ then n else sN σ b)) ∧ (∀ b, b ≠ sz σ → (∀ f, sI σ' f b = sI σ f b) ∧ (∀ j, sA σ' b j = sA σ b j) ∧ (∀ j, sJ σ' b j = sJ σ b j) ∧ ∀ j, sQ σ' b j = sQ σ b j) ∧ sz σ' = sz σ + 1 ∧ sc σ' = sc σ + 1 ∧ sw σ' = sw σ + n
theorem Pot_same {P : List Nat} {σ σ' : St} (h : ∀ a ∈ P, sN σ' (lb σ' a) = sN σ (lb σ a)) : Pot P σ' = Pot P σ := by
  unfold Pot
  rw [List.map_congr_left h]
theorem Pot_grow {P : List Nat} {σ σ' : St} {a d : Nat} (ha : a ∈ P) (h : ∀ b ∈ P, sN σ (lb σ b) ≤ sN σ' (lb σ' b)) (hd : sN σ (lb σ a) + d ≤ sN σ' (lb σ' a)) : Pot P σ + d ≤ Pot P σ' := by
  unfold Pot
  induction P with
  | nil => cases ha
  | cons b P ih =>
    simp only [List.map_cons, List.sum_cons]
    have hb := h b (List.mem_cons_self)
    have hmono : (P.map fun a => sN σ (lb σ a)).sum ≤ (P.map fun a => sN σ' (lb σ' a)).sum := by
      clear ih ha hd hb
      induction P with
      | nil => exact Nat.le_refl _
      | cons c Q ih2 =>
        simp only [List.map_cons, List.sum_cons]
        have h1 := h c (by simp)
        have h2 := ih2 (fun q hq => h q (by rcases List.mem_cons.mp hq with rfl | hq <;> simp [*]))
        omega
    rcases List.mem_cons.mp ha with rfl | ha
    · omega
    · have := ih ha (fun q hq => h q (List.mem_cons_of_mem _ hq))
      omega
/-- a Nat that was written, without growth -/
theorem cF.nat {P : List Nat} {a l n w x y : Nat} {σ σ' : St} (hp : HP P σ) (hA : Nt σ a y) (hN : NA σ a l n) (hR : aF a l σ σ') (hV : Nv σ' a l n w x) : cF P [a] 0 0 σ σ' := by
  obtain ⟨ho, hP⟩ := hp
  obtain ⟨⟨a1, a2, a3, a4, a5⟩, ⟨a6, a7, a8⟩, a9, a10⟩ := id hR
  have hla : lb σ a = l := hN.2.1
  have ho' : Own σ' := by
    refine ⟨⟨by rw [a1]; exact ho.1.1, fun b hb => by rw [a1]; exact ho.1.2 b (by omega)⟩, fun b hb => ?_⟩
    show sK σ' (sF σ' (fid 7 0) b) = 100 ∧ ∀ q, sK σ' q = 8 → sF σ' (fid 7 0) q = sF σ' (fid 7 0) b → q = b
    rw [a1] at hb
    rw [a1, a2]
    exact ho.2 b hb
  have hk : ∀ b z, b ≠ a → Nt σ b z → Nt σ' b z := by
    rintro b z hne ⟨l', n', w', h1, h2, h3⟩
    have hl' : l' ≠ l := by
      intro e
      exact hne ((ho.2 a hN.1).2 b h1.1 (by show sF σ (fid 7 0) b = sF σ (fid 7 0) a; rw [h1.2.1, hN.2.1, e]))
    exact ⟨l', n', w', h1.af hR, h2.af hR hne hl', h3⟩
  have hPot : Pot P σ' = Pot P σ := Pot_same fun b _ => by
    show sN σ' (sF σ' (fid 7 0) b) = _
    rw [a2, a3]
  refine ⟨⟨⟨ho, hP⟩, ho', fun b hb => ?_⟩, ⟨by omega, fun b _ => ⟨by rw [a1], by rw [a3], fun f _ => by rw [a2]⟩⟩, fun b hb q1 q2 => ?_, fun b hb => Or.inl ⟨ho.lt (by rw [← a1, hb]; omega), by show sF σ' _ b = _; rw [a2]⟩, by omega, by omega⟩
  · by_cases e : b = a
    · exact ⟨x, by rw [e]; exact ⟨l, n, w, hV⟩⟩
    · obtain ⟨z, hz⟩ := hP b hb
      exact ⟨z, hk b z e hz⟩
  · have hbl : b ≠ l := by
      intro e
      exact q2 a hN.1 (hla.trans e.symm) (by simp)
    have hba : b ≠ a := by
      intro e
      exact q1 (by rw [e]; exact ho.nl (by rw [hN.1]; omega)) (by simp [e])
    exact ⟨fun f => a9 f b (fun q => hba q.2), fun f => by rw [a2], fun j => by rw [a10 b hbl], fun j => by rw [a4], fun j => by rw [a5]⟩
/-- a Nat that was written, has got new limbs, and was written again -/
theorem cF.natG {P : List Nat} {a l n n' l' w x y : Nat} {σ σ0 σ1 σ' : St} (hp : HP P σ) (hA : Nt σ a y) (hN : NA σ a l n) (haP : a ∈ P) (hn : 2 * n ≤ n') (hn1 : 1 ≤ n) (hR0 : aF a l σ σ0) (hG : gR a n' σ0 σ1) (hR : aF a (sz σ) σ1 σ') (hV : Nv σ' a l' n' w x) : cF P [a] 0 0 σ σ' := by
  obtain ⟨ho, hP⟩ := hp
  obtain ⟨⟨a1, a2, a3, a4, a5⟩, ⟨a6, a7, a8⟩, a9, a10⟩ := id hR
  obtain ⟨⟨r1, r2, r3, r4, r5⟩, ⟨r6, r7, r8⟩, r9, r10⟩ := id hR0
  obtain ⟨g1, g2, g3, g4, g5, g6, g7, g8⟩ := id hG
  rw [r1, r6] at g1
  rw [r2, r6] at g2
  rw [r6] at g3
  rw [r3, r6] at g4
  rw [r6] at g5 g6
  rw [r7] at g7
  rw [r8] at g8
  have hla : lb σ a = l := hN.2.1
  have haz : a < sz σ := ho.lt (by rw [hN.1]; omega)
  have hK : ∀ b, sK σ' b = if b = sz σ then 100 else sK σ b := fun b => by rw [a1, g1]
  have hNn : ∀ b, sN σ' b = if b = sz σ then n' else sN σ b := fun b => by rw [a3, g4]
  have hFa : sF σ' (fid 7 0) a = sz σ := by rw [a2, g3]
  have hF : ∀ f b, b ≠ sz σ → ¬ (f = fid 7 0 ∧ b = a) → sF σ' f b = sF σ f b := fun f b h1 h2 => by rw [a2, g2 f b h1 h2]
  have hlb : ∀ b, sK σ' b = 8 → b ≠ a → b ≠ sz σ ∧ sK σ b = 8 ∧ lb σ' b = lb σ b ∧ lb σ b < sz σ := by
    intro b hb hne
    rw [hK b] at hb
    split at hb
    · omega
    · rename_i hz
      exact ⟨hz, hb, hF _ b hz (fun q => hne q.2), ho.lb hb⟩
  have ho' : Own σ' := by
    refine ⟨⟨by rw [hK, if_neg (by omega)]; exact ho.1.1, fun b hb => by rw [hK, if_neg (by omega)]; exact ho.1.2 b (by omega)⟩, fun b hb => ?_⟩
    by_cases e : b = a
    · rw [e]
      refine ⟨by show sK σ' (sF σ' (fid 7 0) a) = 100; rw [hFa, hK, if_pos rfl], fun q hq e2 => ?_⟩
      by_cases e3 : q = a
      · exact e3
      · obtain ⟨_, _, p3, p4⟩ := hlb q hq e3
        rw [p3] at e2
        have : lb σ' a = sz σ := hFa
        omega
    · obtain ⟨p1, p2, p3, p4⟩ := hlb b hb e
      refine ⟨by rw [p3, hK, if_neg (by omega)]; exact (ho.2 b p2).1, fun q hq e2 => ?_⟩
      by_cases e3 : q = a
      · rw [e3, p3] at e2
        have : lb σ' a = sz σ := hFa
        omega
      · obtain ⟨_, q2, q3, _⟩ := hlb q hq e3
        exact (ho.2 b p2).2 q q2 (by rw [← q3, ← p3]; exact e2)
  have hk : ∀ b z, b ≠ a → Nt σ b z → Nt σ' b z := by
    rintro b z hne ⟨lo, no, wo, h1, h2, h3⟩
    have hb8 := h1.1
    have hbz : b < sz σ := ho.lt (by rw [hb8]; omega)
    have hlz : lo < sz σ := ho.lt (by rw [h1.2.2.1]; omega)
    have hlo : lo ≠ l := by
      intro e
      exact hne ((ho.2 a hN.1).2 b h1.1 (by show sF σ (fid 7 0) b = sF σ (fid 7 0) a; rw [h1.2.1, hN.2.1, e]))
    refine ⟨lo, no, wo, ⟨by rw [hK, if_neg (by omega)]; exact hb8, by rw [hF _ b (by omega) (fun q => hne q.2)]; exact h1.2.1, by rw [hK, if_neg (by omega)]; exact h1.2.2.1, by rw [hNn, if_neg (by omega)]; exact h1.2.2.2.1, h1.2.2.2.2⟩, ⟨?_, fun i hi => ?_, h2.2.2⟩, h3⟩
    · rw [a9 _ _ (fun q => hne q.2), (g5 b (by omega)).1, r9 _ _ (fun q => hne q.2)]
      exact h2.1
    · rw [a10 lo (by omega), (g5 lo (by omega)).2.1, r10 lo hlo]
      exact h2.2.1 i hi
  have hmono : ∀ b ∈ P, sN σ (lb σ b) ≤ sN σ' (lb σ' b) := by
    intro b hb
    by_cases e : b = a
    · rw [e]
      show sN σ (sF σ (fid 7 0) a) ≤ sN σ' (sF σ' (fid 7 0) a)
      rw [hFa, hNn, if_pos rfl, hN.2.1, hN.2.2.2.1]
      omega
    · obtain ⟨z, lo, no, wo, h1, _⟩ := hP b hb
      have hbz : b < sz σ := ho.lt (by rw [h1.1]; omega)
      obtain ⟨_, _, p3, p4⟩ := hlb b (by rw [hK, if_neg (by omega)]; exact h1.1) e
      rw [p3, hNn, if_neg (by omega)]
      exact Nat.le_refl _
  have hgr : sN σ (lb σ a) + (n' - n) ≤ sN σ' (lb σ' a) := by
    show sN σ (sF σ (fid 7 0) a) + (n' - n) ≤ sN σ' (sF σ' (fid 7 0) a)
    rw [hFa, hNn, if_pos rfl, hN.2.1, hN.2.2.2.1]
    omega
  have hPot := Pot_grow haP hmono hgr
  refine ⟨⟨⟨ho, hP⟩, ho', fun b hb => ?_⟩, ⟨by omega, fun b hb => ⟨by rw [hK, if_neg (by omega)], by rw [hNn, if_neg (by omega)], fun f hf => hF f b (by omega) (fun q => ?_)⟩⟩, fun b hb q1 q2 => ?_, fun b hb => ?_, by omega, by omega⟩
  · by_cases e : b = a
    · exact ⟨x, by rw [e]; exact ⟨l', n', w, hV⟩⟩
    · obtain ⟨z, hz⟩ := hP b hb
      exact ⟨z, hk b z e hz⟩
  · rw [q.1] at hf
    exact absurd hf (by decide)
  · have hba : b ≠ a := by
      intro e
      exact q1 (by rw [e]; exact ho.nl (by rw [hN.1]; omega)) (by simp [e])
    have hbl : b ≠ l := by
      intro e
      exact q2 a hN.1 (hla.trans e.symm) (by simp)
    have g := g5 b (by omega)
    exact ⟨fun f => by rw [a9 f b (fun q => hba q.2), g.1 f, r9 f b (fun q => hba q.2)], fun f => hF f b (by omega) (fun q => hba q.2), fun j => by rw [a10 b (by omega), g.2.1 j, r10 b hbl], fun j => by rw [a4, g.2.2.1 j, r4], fun j => by rw [a5, g.2.2.2 j, r5]⟩
  · by_cases e : b = a
    · refine Or.inr ⟨by rw [e]; show sz σ ≤ sF σ' (fid 7 0) a; omega, fun _ => ?_⟩
      rw [e]
      omega
    · obtain ⟨p1, p2, p3, p4⟩ := hlb b hb e
      exact Or.inl ⟨ho.lt (by rw [p2]; omega), p3⟩
theorem Own.af {a l : Nat} {σ σ' : St} (h : Own σ) (hR : aF a l σ σ') : Own σ' := by
  obtain ⟨⟨a1, a2, a3, a4, a5⟩, ⟨a6, a7, a8⟩, _⟩ := hR
  refine ⟨by rw [a1, a6]; exact h.1, fun b hb => ?_⟩
  show sK σ' (sF σ' (fid 7 0) b) = 100 ∧ ∀ q, sK σ' q = 8 → sF σ' (fid 7 0) q = sF σ' (fid 7 0) b → q = b
  rw [a1] at hb
  rw [a1, a2]
  exact h.2 b hb
