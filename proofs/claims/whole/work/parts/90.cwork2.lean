/-! ===== the class' work() ===== -/
theorem cm_work {x b na fa s o n : Nat} {ns : List NE} {fs : List FE} {l : List It} {r : Rs} {σ : St} (ho : oO o) (hbd : ∀ e ∈ fs, ∀ it ∈ e.2.2, OkI fs it) (hp : HP (PX x) σ) (hx : XS σ x) (hQ : SQ σ x) (hB : KBk σ x b na fa ns fs) (hs : KSum σ x s l) (hok : ∀ it ∈ l, OkI fs it) (hh : hts l 0 = some 1) (hS : StS σ x o []) (hn : n ≤ 1000000) (hw : wrk (nvl ns) (fbd fs) n [] l [] 0 [] = some r) :
    Hx (fX2_work σ (x + 75) s b (ntd x o) (x + 18)) (WPo σ x o r) := by
  have hM0 : Mst σ x [] := fun j q h => by cases h
  rw [n_fX2_work, mP hx]
  refine hx_bs ?_
  have hF1 := cWm (k := 1) (v := nI 0) hp hx
  have hx1 := hx.kW hF1
  have hQ1 := hQ.st hF1 hx (fun r hr => by simp only [s1] at hr; omega)
  have hS1 := hS.wi (k := 1) (v := nI 0) hp hx hQ
  have hM1 := hF1.toM hx s75M
  have hB1 := hB.kB (hM1.toB (fun r _ hr => Or.inl (by simp only [s1] at hr; omega))) hQ
  have hs1 := hs.kB (hM1.toB (fun r _ hr => Or.inl (by simp only [s1] at hr; omega))) hQ
  have e11 : sI (wI σ (fid 6 1) (x + 75) (nI 0)) (fid 6 1) (x + 75) = nI 0 := sI_wI_eq
  generalize wI σ (fid 6 1) (x + 75) (nI 0) = σ1 at *
  rw [mP hx1]
  refine hx_bs ?_
  have hF2 := cWm (k := 6) (v := nI 0) hF1.hp hx1
  have hx2 := hx1.kW hF2
  have hQ2 := hQ1.st hF2 hx1 (fun r hr => by simp only [s1] at hr; omega)
  have hS2 := hS1.wi (k := 6) (v := nI 0) hF1.hp hx1 hQ1
  have hM2 := hF2.toM hx1 s75M
  have hB2 := hB1.kB (hM2.toB (fun r _ hr => Or.inl (by simp only [s1] at hr; omega))) hQ1
  have hs2 := hs1.kB (hM2.toB (fun r _ hr => Or.inl (by simp only [s1] at hr; omega))) hQ1
  have e21 : sI (wI σ1 (fid 6 6) (x + 75) (nI 0)) (fid 6 1) (x + 75) = nI 0 := (sI_wI_f (by decide)).trans e11
  have e26 : sI (wI σ1 (fid 6 6) (x + 75) (nI 0)) (fid 6 6) (x + 75) = nI 0 := sI_wI_eq
  generalize wI σ1 (fid 6 6) (x + 75) (nI 0) = σ2 at *
  rw [mP hx2]
  refine hx_bs ?_
  have hF3 := cWm (k := 5) (v := nI 0) hF2.hp hx2
  have hx3 := hx2.kW hF3
  have hQ3 := hQ2.st hF3 hx2 (fun r hr => by simp only [s1] at hr; omega)
  have hS3 := hS2.wi (k := 5) (v := nI 0) hF2.hp hx2 hQ2
  have hM3 := hF3.toM hx2 s75M
  have hB3 := hB2.kB (hM3.toB (fun r _ hr => Or.inl (by simp only [s1] at hr; omega))) hQ2
  have hs3 := hs2.kB (hM3.toB (fun r _ hr => Or.inl (by simp only [s1] at hr; omega))) hQ2
  have e31 : sI (wI σ2 (fid 6 5) (x + 75) (nI 0)) (fid 6 1) (x + 75) = nI 0 := (sI_wI_f (by decide)).trans e21
  have e36 : sI (wI σ2 (fid 6 5) (x + 75) (nI 0)) (fid 6 6) (x + 75) = nI 0 := (sI_wI_f (by decide)).trans e26
  have e35 : sI (wI σ2 (fid 6 5) (x + 75) (nI 0)) (fid 6 5) (x + 75) = nI 0 := sI_wI_eq
  generalize wI σ2 (fid 6 5) (x + 75) (nI 0) = σ3 at *
  rw [xk_75 hx3]
  refine hx_bs ?_
  refine Hx.bd (cm_begin (L := 0) (h := 0) (np := 0) hF3.hp hx3 hs3 (by omega) e35 e31 (Nat.le_refl _)) (fun σ4 _ h4 => ?_)
  obtain ⟨w1, w2, w3, w4, w5⟩ := h4
  have hS9 : ∀ T, tMu T → ¬ (x + 77 ≤ x + T ∧ x + T ≤ x + 79) := fun T hT => by
    rcases hT with rfl | rfl | rfl <;> omega
  have hM4 := w1.toM hx3 hS9
  have hx4 := hx3.kW w1
  have hQ4 := hQ3.st w1 hx3 (fun r hr => by omega)
  have hB4 := hM4.toB (fun r _ hr => Or.inl (by omega))
  have hm4 := w1.mis hx3 (by omega)
  have hS4 := hS3.kp hx3 hQ3 hM4 (Or.inl rfl : tMu 76) (h := 1000) (fun r hr => Or.inl (by omega)) (fun e => by rcases ho with rfl | ho; (omega); (unfold oS at ho; omega)) (fun hoS => by unfold oS at hoS; omega)
  have hWI : WI σ4 x b na fa o ns fs [] l [] 0 [] := ⟨⟨hM4.hp, hx4, hQ4⟩, hB3.kB hB4 hQ3, ⟨by rw [hm4]; exact e31, by rw [hm4]; exact e35, by rw [hm4]; exact e36⟩, fun j q h => by (cases h), fun q h => by (cases h), ⟨⟨0, l, by rw [show ([] : Frs).length = 0 from rfl, w2]; exact hs3.kB hB4 hQ3, w3, Nat.zero_le _, rfl⟩, trivial⟩, fun h => absurd rfl h, hS4, hh, Nat.zero_le _⟩
  refine Hx.mo (cm_loop ho hbd n FU 0 σ4 [] l [] 0 [] r (by show n < 4294967296; omega) (by omega) hw hWI hok (fun p h => by cases h) (by simp)) (fun σ5 v h => ?_)
  have up : ∀ {τ : St} (r : Nat), s1 (x + 75) r → sM τ x o r := fun r hr => s1M (by omega) hr
  exact h.pre (S := sM σ x o) ho (((((hM1.mo (S' := sM σ x o) (fun r _ hr => up r hr) (Nat.le_refl _) (Nat.le_refl _)).tr0 hM2 (fun r _ hr => up r hr))).tr0 hM3 (fun r _ hr => up r hr)).tr0 hM4 (fun r _ hr => Or.inr (Or.inl (by omega)))) (fun _ _ h => h)
/-! ===== bits of a set of nodes ===== -/
theorem bm_0 : Bm (nI 0) (fun _ => False) := by
  intro j hj
  have : (nI 0).toBitVec = 0#32 := rfl
  rw [this]
  simp
theorem bm_or {v w : Int32} {p q : Nat → Prop} (h1 : Bm v p) (h2 : Bm w q) : Bm (v ||| w) (fun j => p j ∨ q j) := by
  intro j hj
  have : (v ||| w).toBitVec = v.toBitVec ||| w.toBitVec := rfl
  rw [this, BitVec.getLsbD_or, Bool.or_eq_true, h1 j hj, h2 j hj]
theorem bm_and {v w : Int32} {p q : Nat → Prop} (h1 : Bm v p) (h2 : Bm w q) : Bm (v &&& w) (fun j => p j ∧ q j) := by
  intro j hj
  have : (v &&& w).toBitVec = v.toBitVec &&& w.toBitVec := rfl
  rw [this, BitVec.getLsbD_and, Bool.and_eq_true, h1 j hj, h2 j hj]
theorem Bm.cg {v : Int32} {p q : Nat → Prop} (h : Bm v p) (e : ∀ j, j < 32 → (p j ↔ q j)) : Bm v q := fun j hj => (h j hj).trans (e j hj)
theorem bm_z {v : Int32} {p : Nat → Prop} (h : Bm v p) : (v = nI 0) = (∀ j, j < 32 → ¬ p j) := by
  refine propext ⟨fun e j hj hp => ?_, fun hn => ?_⟩
  · have := (h j hj).mpr hp
    rw [e] at this
    have h0 : (nI 0).toBitVec = 0#32 := rfl
    rw [h0] at this
    simp at this
  · apply Int32.toBitVec_inj.mp
    apply BitVec.eq_of_getLsbD_eq
    intro j hj
    have h0 : (nI 0).toBitVec = 0#32 := rfl
    rw [h0, BitVec.getLsbD_zero]
    have := (not_congr (h j hj)).mpr (hn j hj)
    simpa using this
theorem bm_shl {i : Nat} (hi : i < 32) : Bm ((nI 1) <<< ((nI i) &&& (nI 31))) (fun j => j = i) := by
  intro j hj
  have hii : i = 0 ∨ i = 1 ∨ i = 2 ∨ i = 3 ∨ i = 4 ∨ i = 5 ∨ i = 6 ∨ i = 7 ∨ i = 8 ∨ i = 9 ∨ i = 10 ∨ i = 11 ∨ i = 12 ∨ i = 13 ∨ i = 14 ∨ i = 15 ∨ i = 16 ∨ i = 17 ∨ i = 18 ∨ i = 19 ∨ i = 20 ∨ i = 21 ∨ i = 22 ∨ i = 23 ∨ i = 24 ∨ i = 25 ∨ i = 26 ∨ i = 27 ∨ i = 28 ∨ i = 29 ∨ i = 30 ∨ i = 31 := by omega
  have key : ((nI 1) <<< ((nI i) &&& (nI 31))).toBitVec = BitVec.twoPow 32 i := by
    rcases hii with rfl | rfl | rfl | rfl | rfl | rfl | rfl | rfl | rfl | rfl | rfl | rfl | rfl | rfl | rfl | rfl | rfl | rfl | rfl | rfl | rfl | rfl | rfl | rfl | rfl | rfl | rfl | rfl | rfl | rfl | rfl | rfl <;> rfl
  rw [key, BitVec.getLsbD_twoPow]
  simp
  omega
theorem bm_test {v : Int32} {p : Nat → Prop} {i : Nat} (h : Bm v p) (hi : i < 32) : ((((Int32.toUInt32 v >>> (Int32.toUInt32 (nI i) &&& Int32.toUInt32 (nI 31)))).toInt32) &&& (nI 1) = nI 0) = ¬ p i := by
  have hii : i = 0 ∨ i = 1 ∨ i = 2 ∨ i = 3 ∨ i = 4 ∨ i = 5 ∨ i = 6 ∨ i = 7 ∨ i = 8 ∨ i = 9 ∨ i = 10 ∨ i = 11 ∨ i = 12 ∨ i = 13 ∨ i = 14 ∨ i = 15 ∨ i = 16 ∨ i = 17 ∨ i = 18 ∨ i = 19 ∨ i = 20 ∨ i = 21 ∨ i = 22 ∨ i = 23 ∨ i = 24 ∨ i = 25 ∨ i = 26 ∨ i = 27 ∨ i = 28 ∨ i = 29 ∨ i = 30 ∨ i = 31 := by omega
  have key : ((((Int32.toUInt32 v >>> (Int32.toUInt32 (nI i) &&& Int32.toUInt32 (nI 31)))).toInt32) &&& (nI 1)).toBitVec = (v.toBitVec >>> i) &&& 1#32 := by
    rcases hii with rfl | rfl | rfl | rfl | rfl | rfl | rfl | rfl | rfl | rfl | rfl | rfl | rfl | rfl | rfl | rfl | rfl | rfl | rfl | rfl | rfl | rfl | rfl | rfl | rfl | rfl | rfl | rfl | rfl | rfl | rfl | rfl <;> rfl
  have hb : ((v.toBitVec >>> i) &&& 1#32 = 0#32) ↔ v.toBitVec.getLsbD i = false := by
    constructor
    · intro e
      have := congrArg (fun b : BitVec 32 => b.getLsbD 0) e
      simpa using this
    · intro e
      apply BitVec.eq_of_getLsbD_eq
      intro j hj
      rw [BitVec.getLsbD_and, BitVec.getLsbD_zero, BitVec.getLsbD_ushiftRight]
      by_cases c : j = 0
      · subst c
        simp [e]
      · simp [c]
  have e1 : ((((Int32.toUInt32 v >>> (Int32.toUInt32 (nI i) &&& Int32.toUInt32 (nI 31)))).toInt32) &&& (nI 1) = nI 0) ↔ (v.toBitVec >>> i) &&& 1#32 = 0#32 := by
    rw [← Int32.toBitVec_inj, key]
    exact Iff.rfl
  rw [propext e1, propext hb]
  have := h i hi
  refine propext ?_
  rw [← this]
  simp
