/-! ===== what the class keeps: fractions, sums, things told, books ===== -/
/-- the places of the rows of fractions that are used again: the stack's, the steps' -/
def tMu (T : Nat) : Prop := T = 76 ∨ T = 13 ∨ T = 16
/-- the cells of a fraction -/
def fc (a r : Nat) : Prop := a ≠ 0 ∧ (r = a ∨ r = a + 1 ∨ r = a + 3)
/-- the reference's cells, and the array for answers -/
def mR (x r : Nat) : Prop := x + 98 ≤ r ∧ r ≤ x + 143
theorem mR.n {x r : Nat} (h : x + 143 < r) : ¬ mR x r := fun q => by unfold mR at q; omega
def mRK (σ : St) (x r : Nat) : Prop := mR x r ∧ (sK σ r = 17 ∨ sK σ r = 100 ∨ sK σ r = 102 ∨ sK σ r = 103)
/-- what a call of the class may write of old cells -/
def muS (σ : St) (x r : Nat) : Prop := (x ≤ r ∧ r ≤ x + 84 ∧ (r < x + 3 ∨ x + 7 < r)) ∨ (∃ T i, tMu T ∧ fc (sQ σ (x + T) i) r) ∨ sK σ r = 101 ∨ mRK σ x r
/-- the rows of fractions get new ones alone -/
def aE (x : Nat) (σ σ' : St) : Prop := ∀ T i, tMu T → sQ σ' (x + T) i = sQ σ (x + T) i ∨ sQ σ (x + T) i = 0 ∧ sz σ ≤ sQ σ' (x + T) i
/-- the rows of fractions -/
def SQ (σ : St) (x : Nat) : Prop := (∀ T i, tMu T → sQ σ (x + T) i ≠ 0 → x + 84 < sQ σ (x + T) i ∧ FS σ (sQ σ (x + T) i) ∧ ∃ s n d, FX σ (sQ σ (x + T) i) s n d) ∧
  ∀ T i T' j, tMu T → tMu T' → sQ σ (x + T) i ≠ 0 → sQ σ (x + T) i = sQ σ (x + T') j → T = T' ∧ i = j
/-- a frame of a call of the class -/
def cB (x : Nat) (σ σ' : St) : Prop := (∃ S k c, cW x S k c σ σ' ∧ ∀ r, r < sz σ → S r → muS σ x r) ∧ aE x σ σ'
theorem aE.rf {x : Nat} {σ : St} : aE x σ σ := fun _ _ _ => Or.inl rfl
theorem aE.tr {x : Nat} {σ σ1 σ2 : St} (h1 : aE x σ σ1) (hz : sz σ ≤ sz σ1) (h2 : aE x σ1 σ2) : aE x σ σ2 := by
  intro T i hT
  rcases h1 T i hT with e1 | ⟨e1, e2⟩
  · rcases h2 T i hT with g1 | ⟨g1, g2⟩
    · exact Or.inl (g1.trans e1)
    · exact Or.inr ⟨by rw [← e1]; exact g1, Nat.le_trans hz g2⟩
  · rcases h2 T i hT with g1 | ⟨g1, g2⟩
    · exact Or.inr ⟨e1, by rw [g1]; exact e2⟩
    · exact Or.inr ⟨e1, Nat.le_trans hz g2⟩
theorem aE.of {x : Nat} {σ σ' : St} (h : ∀ T, tMu T → ∀ i, sQ σ' (x + T) i = sQ σ (x + T) i) : aE x σ σ' := fun T i hT => Or.inl (h T hT i)
theorem muS.up {x r : Nat} {σ σ1 : St} (h1 : aE x σ σ1) (hr : r < sz σ) (hk : sK σ1 r = sK σ r) (h : muS σ1 x r) : muS σ x r := by
  rcases h with h | ⟨T, i, hT, h0, h⟩ | h | h
  · exact Or.inl h
  · rcases h1 T i hT with e | ⟨e1, e2⟩
    · rw [e] at h0 h
      exact Or.inr (Or.inl ⟨T, i, hT, h0, h⟩)
    · exfalso; omega
  · exact Or.inr (Or.inr (Or.inl (by rw [← hk]; exact h)))
  · exact Or.inr (Or.inr (Or.inr ⟨h.1, by rw [← hk]; exact h.2⟩))
theorem cB.tr {x : Nat} {σ σ1 σ2 : St} (h1 : cB x σ σ1) (h2 : cB x σ1 σ2) : cB x σ σ2 := by
  obtain ⟨⟨S, k, c, a1, a2⟩, a3⟩ := h1
  obtain ⟨⟨S', k', c', b1, b2⟩, b3⟩ := h2
  have hz := a1.2.1.1
  refine ⟨⟨muS σ x, k + k', c + c', (a1.mo (S' := muS σ x) a2 (Nat.le_refl _) (Nat.le_refl _)).tr b1 (fun r hr hs => ?_), fun _ _ h => h⟩, a3.tr hz b3⟩
  exact muS.up a3 hr (a1.2.1.2 r hr).1 (b2 r (by omega) hs)
theorem cB.of {x : Nat} {S : Nat → Prop} {k c : Nat} {σ σ' : St} (h : cW x S k c σ σ') (hS : ∀ r, r < sz σ → S r → (x ≤ r ∧ r ≤ x + 84 ∧ (r < x + 3 ∨ x + 7 < r))) (hq : ∀ T, tMu T → ¬ S (x + T)) (hx : XS σ x) : cB x σ σ' := by
  refine ⟨⟨S, k, c, h, fun r hr hs => Or.inl (hS r hr hs)⟩, aE.of fun T hT i => ?_⟩
  have hk : sK σ (x + T) = 104 := by
    rcases hT with rfl | rfl | rfl <;> exact hx.kd _ 104 (by decide)
  exact ((h.sam (by rw [hk]; omega) (Or.inl (by rw [hk]; omega)) (hq T hT)).2.2.2.2 i)
theorem cB.rf {x : Nat} {σ : St} (hp : HP (PX x) σ) : cB x σ σ := ⟨⟨muS σ x, 0, 0, cW.rf hp, fun _ _ h => h⟩, aE.rf⟩
theorem cB.hp {x : Nat} {σ σ' : St} (h : cB x σ σ') : HP (PX x) σ' := by
  obtain ⟨⟨S, k, c, a1, a2⟩, a3⟩ := h
  exact a1.hp
theorem cB.lt {x : Nat} {σ σ' : St} (h : cB x σ σ') {a : Nat} (ha : sK σ a ≠ 0) : a < sz σ := by
  obtain ⟨⟨S, k, c, a1, a2⟩, a3⟩ := h
  exact a1.1.1.1.lt ha
theorem cB.xs {x : Nat} {σ σ' : St} (h : cB x σ σ') (hx : XS σ x) : XS σ' x := by
  obtain ⟨⟨S, k, c, a1, a2⟩, a3⟩ := h
  exact hx.kW a1
theorem cB.kd {x a κ : Nat} {σ σ' : St} (h : cB x σ σ') (hk : sK σ a = κ) (h0 : κ ≠ 0) : sK σ' a = κ := by
  obtain ⟨⟨S, k, c, a1, a2⟩, a3⟩ := h
  exact a1.k hk h0
theorem cB.ln {x a : Nat} {σ σ' : St} (h : cB x σ σ') (h0 : sK σ a ≠ 0) : sN σ' a = sN σ a := by
  obtain ⟨⟨S, k, c, a1, a2⟩, a3⟩ := h
  exact (a1.2.1.2 a (a1.1.1.1.lt h0)).2.1
/-- a cell that is kept is the same -/
theorem cB.sam {x a : Nat} {σ σ' : St} (h : cB x σ σ') (hQ : SQ σ x) (ha : x + 84 < a) (h0 : sK σ a ≠ 0) (h6 : sK σ a ≠ 6 ∧ sK σ a ≠ 8 ∧ sK σ a ≠ 101 ∧ sK σ a ≠ 17 ∧ sK σ a ≠ 102 ∧ sK σ a ≠ 103) (h1 : sK σ a ≠ 100 ∨ (NL σ a ∧ ¬ mR x a)) : samC σ σ' a := by
  obtain ⟨⟨S, k, c, a1, a2⟩, a3⟩ := h
  refine a1.sam h0 (h1.imp_right And.left) (fun hs => ?_)
  rcases a2 a (a1.1.1.1.lt h0) hs with h | ⟨T, i, hT, g0, g⟩ | g | g
  · omega
  · obtain ⟨_, ⟨f1, _, ⟨f2, _⟩, f3, _⟩, _⟩ := hQ.1 T i hT g0
    rcases g with g | g | g
    · exact h6.1 (by rw [g]; exact f1)
    · exact h6.2.1 (by rw [g]; exact f2)
    · exact h6.2.1 (by rw [g]; exact f3)
  · exact h6.2.2.1 g
  · rcases g.2 with e | e | e | e
    · exact h6.2.2.2.1 e
    · rcases h1 with h1 | h1
      · exact h1 e
      · exact h1.2 g.1
    · exact h6.2.2.2.2.1 e
    · exact h6.2.2.2.2.2 e
theorem cB.nl {x b : Nat} {σ σ' : St} (h : cB x σ σ') (hb : sK σ b ≠ 0) (hn : NL σ b) : NL σ' b := by
  obtain ⟨⟨S, k, c, a1, a2⟩, a3⟩ := h
  exact a1.nl (a1.1.1.1.lt hb) hn
/-- a fraction that is kept -/
def KF (σ : St) (x a : Nat) (q : Qv) : Prop := (x + 84 < a ∨ a = x + 3) ∧ (∀ T i, tMu T → sQ σ (x + T) i ≠ a) ∧ qok q ∧ FX σ a q.1 q.2.1 q.2.2
theorem KF.kB {x a : Nat} {q : Qv} {σ σ' : St} (h : KF σ x a q) (hR : cB x σ σ') (hQ : SQ σ x) : KF σ' x a q := by
  obtain ⟨h1, h2, h3, h4⟩ := h
  obtain ⟨⟨S, k, c, a1, a2⟩, a3⟩ := hR
  have hk := h4.1.1
  have hz : a < sz σ := a1.1.1.1.lt (by rw [hk]; omega)
  refine ⟨h1, fun T i hT e => ?_, h3, h4.kW a1 ?_⟩
  · rcases a3 T i hT with g | ⟨_, g⟩
    · exact h2 T i hT (g ▸ e)
    · omega
  · have key : ∀ r, (r = a ∨ r = a + 1 ∨ r = a + 3) → ¬ S r := by
      intro r hr hs
      have hrz : r < sz σ := by
        obtain ⟨_, _, ⟨f2, _⟩, f3, _⟩ := h4.1
        rcases hr with hr | hr | hr
        · omega
        · exact a1.1.1.1.lt (by rw [hr, f2]; omega)
        · exact a1.1.1.1.lt (by rw [hr, f3]; omega)
      rcases a2 r hrz hs with h | ⟨T, i, hT, g0, g⟩ | g | ⟨_, g⟩
      · omega
      · obtain ⟨_, fs, _⟩ := hQ.1 T i hT g0
        have hne := h2 T i hT
        have := fs.ne h4.1 hne
        omega
      · obtain ⟨_, _, ⟨f2, _⟩, f3, _⟩ := h4.1
        rcases hr with hr | hr | hr <;> subst hr <;> omega
      · obtain ⟨_, _, ⟨f2, _⟩, f3, _⟩ := h4.1
        rcases hr with hr | hr | hr <;> subst hr <;> rcases g with g | g | g | g <;> omega
    exact ⟨key _ (Or.inl rfl), key _ (Or.inr (Or.inl rfl)), key _ (Or.inr (Or.inr rfl))⟩
/-- a row of ints that is kept -/
def KA (σ : St) (x a n : Nat) : Prop := (x + 84 < a ∧ ¬ mR x a) ∧ sK σ a = 100 ∧ sN σ a = n ∧ NL σ a
/-- a row of references that is kept -/
def KR (σ : St) (x κ a n : Nat) : Prop := x + 84 < a ∧ sK σ a = κ ∧ sN σ a = n
theorem KA.kB {x a n : Nat} {σ σ' : St} (h : KA σ x a n) (hR : cB x σ σ') (hQ : SQ σ x) : KA σ' x a n ∧ ∀ j, sA σ' a j = sA σ a j := by
  obtain ⟨h1, h2, h3, h4⟩ := h
  have h0 : sK σ a ≠ 0 := by omega
  exact ⟨⟨h1, hR.kd h2 (by omega), by rw [hR.ln h0]; exact h3, hR.nl h0 h4⟩, (hR.sam hQ h1.1 h0 (by omega) (Or.inr ⟨h4, h1.2⟩)).2.2.1⟩
theorem KR.kB {x κ a n : Nat} {σ σ' : St} (h : KR σ x κ a n) (hκ : 103 < κ) (hR : cB x σ σ') (hQ : SQ σ x) : KR σ' x κ a n ∧ ∀ j, sQ σ' a j = sQ σ a j := by
  obtain ⟨h1, h2, h3⟩ := h
  have h0 : sK σ a ≠ 0 := by omega
  exact ⟨⟨h1, hR.kd h2 (by omega), by rw [hR.ln h0]; exact h3⟩, (hR.sam hQ h1 h0 (by omega) (Or.inl (by omega))).2.2.2.2⟩
/-- the class' number of what an item is -/
def ckd (it : It) : Nat := if it.1 = 30 then 21 else if it.1 = 31 then 22 else if it.1 = 32 then 23 else if it.1 = 33 then (if known it.2.1 = 0 then 9 else known it.2.1) else it.1
def itb (it : It) : Prop := it.1 < 100 ∧ it.2.1 < 2147483648 ∧ it.2.2.1 ≤ 200 ∧ it.2.2.2.1 ≤ 200 ∧ (it.1 ≤ 8 ∨ 30 ≤ it.1)
/-- a sum that is kept: its rows, and an item of it -/
def KIt (σ : St) (x ka oa pa ca na nn j : Nat) (it : It) : Prop := itb it ∧ sA σ ka j = nI (ckd it) ∧ (it.1 = 30 → ∃ u, sA σ oa j = nI u ∧ u < nn ∧ KF σ x (sQ σ na u) it.2.2.2.2) ∧ (it.1 ≠ 30 → sA σ oa j = nI it.2.1) ∧ sA σ pa j = nI it.2.2.2.1 ∧ sA σ ca j = nI it.2.2.1
def KSum (σ : St) (x s : Nat) (l : List It) : Prop := (x + 84 < s ∧ sK σ s = 14 ∧ l.length ≤ 200) ∧ ∃ ka oa pa ca na nn, (sF σ (fid 13 0) s = ka ∧ sF σ (fid 13 1) s = oa ∧ sF σ (fid 13 2) s = pa ∧ sF σ (fid 13 3) s = ca ∧ sF σ (fid 13 4) s = na) ∧
  (KA σ x ka l.length ∧ KA σ x oa l.length ∧ KA σ x pa l.length ∧ KA σ x ca l.length ∧ KR σ x 104 na nn ∧ nn ≤ 200) ∧ ∀ j it, l[j]? = some it → KIt σ x ka oa pa ca na nn j it
theorem KSum.kB {x s : Nat} {l : List It} {σ σ' : St} (h : KSum σ x s l) (hR : cB x σ σ') (hQ : SQ σ x) : KSum σ' x s l := by
  obtain ⟨⟨h1, h2, h3⟩, ka, oa, pa, ca, na, nn, hf, ⟨k1, k2, k3, k4, k5, k6⟩, hi⟩ := h
  have hs := hR.sam hQ h1 (by omega) (by omega) (Or.inl (by omega))
  obtain ⟨q1, e1⟩ := k1.kB hR hQ
  obtain ⟨q2, e2⟩ := k2.kB hR hQ
  obtain ⟨q3, e3⟩ := k3.kB hR hQ
  obtain ⟨q4, e4⟩ := k4.kB hR hQ
  obtain ⟨q5, e5⟩ := k5.kB (by omega) hR hQ
  refine ⟨⟨h1, hR.kd h2 (by omega), h3⟩, ka, oa, pa, ca, na, nn, ?_, ⟨q1, q2, q3, q4, q5, k6⟩, fun j it hj => ?_⟩
  · simp only [hs.2.1]
    exact hf
  · obtain ⟨g1, g2, g3, g4, g5, g6⟩ := hi j it hj
    refine ⟨g1, by rw [e1]; exact g2, fun h30 => ?_, fun h30 => by rw [e2]; exact g4 h30, by rw [e3]; exact g5, by rw [e4]; exact g6⟩
    obtain ⟨u, w1, w2, w3⟩ := g3 h30
    exact ⟨u, by rw [e2]; exact w1, w2, by rw [e5]; exact w3.kB hR hQ⟩
/-- a thing told that is kept -/
def KTold (σ : St) (x t w np : Nat) (l : List It) (vo : Option Qv) : Prop := (x + 84 < t ∧ sK σ t = 15) ∧ (sI σ (fid 14 0) t = nI w ∧ w < 2147483648) ∧ (sI σ (fid 14 1) t = nI np ∧ np ≤ 4) ∧ KSum σ x (sF σ (fid 14 2) t) l ∧ match vo with
  | none => sF σ (fid 14 3) t = 0
  | some q => KF σ x (sF σ (fid 14 3) t) q
theorem KTold.kB {x t w np : Nat} {l : List It} {vo : Option Qv} {σ σ' : St} (h : KTold σ x t w np l vo) (hR : cB x σ σ') (hQ : SQ σ x) : KTold σ' x t w np l vo := by
  obtain ⟨⟨h1, h2⟩, h3, h4, h5, h6⟩ := h
  have hs := hR.sam hQ h1 (by omega) (by omega) (Or.inl (by omega))
  refine ⟨⟨h1, hR.kd h2 (by omega)⟩, by rw [hs.1]; exact h3, by rw [hs.1]; exact h4, by rw [hs.2.1]; exact h5.kB hR hQ, ?_⟩
  cases vo with
  | none => show sF σ' (fid 14 3) t = 0; rw [hs.2.1]; exact h6
  | some q => show KF σ' x (sF σ' (fid 14 3) t) q; rw [hs.2.1]; exact KF.kB h6 hR hQ
/-- a set of nodes as the bits of an int -/
def Bm (v : Int32) (p : Nat → Prop) : Prop := ∀ j, j < 32 → (v.toBitVec.getLsbD j = true ↔ p j)
/-- the names and functions of a book, without what they use -/
def KBk (σ : St) (x b na fa : Nat) (ns : List NE) (fs : List FE) : Prop := (x + 84 < b ∧ sK σ b = 5 ∧ ns.length ≤ 20 ∧ fs.length ≤ 10) ∧ (sF σ (fid 4 0) b = na ∧ sF σ (fid 4 1) b = fa) ∧ (KR σ x 108 na ns.length ∧ KR σ x 108 fa fs.length) ∧
  (∀ i e, ns[i]? = some e → KTold σ x (sQ σ na i) e.1 0 e.2.1 (some e.2.2)) ∧ ∀ i e, fs[i]? = some e → KTold σ x (sQ σ fa i) e.1 e.2.1 e.2.2 none ∧ 0 < e.2.1
/-- what its nodes use, directly and by others -/
def KUs (σ : St) (x b : Nat) (T : List Th) : Prop := ∃ da ra, (sF σ (fid 4 2) b = da ∧ sF σ (fid 4 3) b = ra) ∧ (KA σ x da T.length ∧ KA σ x ra T.length) ∧ ∀ i e, T[i]? = some e →
  Bm (sA σ da i) (fun j => ∃ e', T[j]? = some e' ∧ usb e.2.2 e'.1 e'.2.1 = true) ∧ Bm (sA σ ra i) (fun j => ∃ e', T[j]? = some e' ∧ Rch T e.2.2 e')
def KBook (σ : St) (x b : Nat) (ns : List NE) (fs : List FE) : Prop := (∃ na fa, KBk σ x b na fa ns fs) ∧ KUs σ x b (Ths ns fs)
theorem KBk.kB {x b na fa : Nat} {ns : List NE} {fs : List FE} {σ σ' : St} (h : KBk σ x b na fa ns fs) (hR : cB x σ σ') (hQ : SQ σ x) : KBk σ' x b na fa ns fs := by
  obtain ⟨⟨h1, h2, h3⟩, ⟨g1, g2⟩, ⟨k1, k2⟩, n1, f1⟩ := h
  have hs := hR.sam hQ h1 (by omega) (by omega) (Or.inl (by omega))
  obtain ⟨q1, e1⟩ := k1.kB (by omega) hR hQ
  obtain ⟨q2, e2⟩ := k2.kB (by omega) hR hQ
  refine ⟨⟨h1, hR.kd h2 (by omega), h3⟩, ⟨by rw [hs.2.1]; exact g1, by rw [hs.2.1]; exact g2⟩, ⟨q1, q2⟩, fun i e he => ?_, fun i e he => ?_⟩
  · rw [e1]; exact (n1 i e he).kB hR hQ
  · rw [e2]; exact ⟨(f1 i e he).1.kB hR hQ, (f1 i e he).2⟩
theorem KUs.kB {x b : Nat} {T : List Th} {σ σ' : St} (h : KUs σ x b T) (hb : x + 84 < b ∧ sK σ b = 5) (hR : cB x σ σ') (hQ : SQ σ x) : KUs σ' x b T := by
  obtain ⟨da, ra, ⟨g1, g2⟩, ⟨k1, k2⟩, hi⟩ := h
  have hs := hR.sam hQ hb.1 (by omega) (by omega) (Or.inl (by omega))
  obtain ⟨q1, e1⟩ := k1.kB hR hQ
  obtain ⟨q2, e2⟩ := k2.kB hR hQ
  refine ⟨da, ra, ⟨by rw [hs.2.1]; exact g1, by rw [hs.2.1]; exact g2⟩, ⟨q1, q2⟩, fun i e he => ?_⟩
  rw [e1, e2]
  exact hi i e he
theorem KBook.kB {x b : Nat} {ns : List NE} {fs : List FE} {σ σ' : St} (h : KBook σ x b ns fs) (hR : cB x σ σ') (hQ : SQ σ x) : KBook σ' x b ns fs := by
  obtain ⟨⟨na, fa, h1⟩, h2⟩ := h
  exact ⟨⟨na, fa, h1.kB hR hQ⟩, h2.kB ⟨h1.1.1, h1.1.2.1⟩ hR hQ⟩
