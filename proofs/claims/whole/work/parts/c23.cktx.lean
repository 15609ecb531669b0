/-! ===== calls of the one that was built: frames beside what it holds ===== -/
/-- another text -/
abbrev wrK (s : Kst) (wr : List Nat) : Kst := (s.1, s.2.1, s.2.2.1, s.2.2.2.1, s.2.2.2.2.1, wr, s.2.2.2.2.2.2)
/-- what may be written beside: numbers of the reckoner's, the text, the reference -/
def sFr (σ : St) (x r : Nat) : Prop := (x + 19 ≤ r ∧ r ≤ x + 64) ∨ r = x + 9 ∨ sK σ r = 101 ∨ mRK σ x r
theorem sFr.lo {σ : St} {x o κ : Nat} (hx : XS σ x) (hm : (o, κ) ∈ xK) (h1 : o ≤ 18 ∨ 65 ≤ o) (h9 : o ≠ 9) : ¬ sFr σ x (x + o) := by
  have b1 : ∀ p ∈ xK, p.1 < 85 := by decide
  have b2 : ∀ p ∈ xK, p.2 ≠ 101 := by decide
  have q1 := b1 _ hm
  have q2 := b2 _ hm
  have hk := hx.kd o κ hm
  rintro (h | h | h | h)
  · omega
  · omega
  · rw [hk] at h; exact q2 h
  · have := h.1
    unfold mR at this
    have q1 : o < 85 := q1
    omega
theorem sFr.n68 {σ : St} {x r : Nat} (hx : XS σ x) (hr : x + 84 < r) (hk : sK σ r = 6 ∨ sK σ r = 8) : ¬ sFr σ x r := by
  have k9 : sK σ (x + 9) = 2 := hx.kd 9 2 (by decide)
  rintro (h | h | h | ⟨_, h⟩)
  · omega
  · subst h; omega
  · omega
  · omega
theorem StS.kW2 {x o k c : Nat} {sts : Sts} {S : Nat → Prop} {σ σ' : St} (h : StS σ x o sts) (hx : XS σ x) (hQ : SQ σ x) (hF : cW x S k c σ σ') (h1 : ¬ S (x + o) ∧ ¬ S (x + (o + 1)) ∧ ¬ S (x + (o + 2))) (h2 : ∀ r, x + 84 < r → sK σ r = 6 ∨ sK σ r = 8 → ¬ S r) : StS σ' x o sts := by
  rcases h with h | ⟨ho, e1, e2⟩
  · exact Or.inl h
  · obtain ⟨⟨k1, k2, k3, k4, k5⟩, _⟩ := hx.o ho
    have kT : sK σ (x + (o + 2)) = 104 := hx.k104 ho.t
    have s1 := hF.sam (a := x + o) (by omega) (Or.inl (by omega)) h1.1
    have s2 := hF.sam (a := x + (o + 1)) (by omega) (Or.inr k5) h1.2.1
    have s3 := hF.sam (a := x + (o + 2)) (by omega) (Or.inl (by omega)) h1.2.2
    refine Or.inr ⟨ho, by rw [s1.1]; exact e1, fun j s hj => ?_⟩
    obtain ⟨q1, q2, q3, q4⟩ := e2 j s hj
    have hlow := (hQ.1 (o + 2) j ho.t q2).1
    have f1 := q3.1.1
    have f2 := q3.1.2.2.1.1
    have f3 := q3.1.2.2.2.1
    rw [s2.2.2.1, s3.2.2.2.2]
    exact ⟨q1, q2, q3.kW hF ⟨h2 _ hlow (Or.inl f1), h2 _ (by omega) (Or.inr f2), h2 _ (by omega) (Or.inr f3)⟩, q4⟩
theorem KI.fr {σ σ' : St} {x o k c : Nat} {s : Kst} {wr : List Nat} {S : Nat → Prop} (h : KI σ x o s) (hc : cW x S k c σ σ') (hS : ∀ r, S r → sFr σ x r) (hW : KWx σ' x wr) : KI σ' x o (wrK s wr) ∧ cM x S k c σ σ' := by
  obtain ⟨h0, ⟨t1, t2, t3⟩, ⟨a1, a2, a3, a4⟩, ⟨p1, p2⟩, hh, w, wp, hw⟩ := h
  have ho := p1.1
  obtain ⟨hp, hx, hk, ht, hQ⟩ := h0
  have low : ∀ o κ, (o, κ) ∈ xK → (o ≤ 18 ∨ 65 ≤ o) → o ≠ 9 → ¬ S (x + o) := fun o κ h1 h2 h3 hs => sFr.lo hx h1 h2 h3 (hS _ hs)
  have n68 : ∀ r, x + 84 < r → sK σ r = 6 ∨ sK σ r = 8 → ¬ S r := fun r h1 h2 hs => sFr.n68 hx h1 h2 (hS _ hs)
  have lT : ∀ T, tMu T → ¬ S (x + T) := fun T hT => by
    rcases hT with g | g | g
    · subst g; exact low 76 104 (by decide) (by omega) (by omega)
    · subst g; exact low 13 104 (by decide) (by omega) (by omega)
    · subst g; exact low 16 104 (by decide) (by omega) (by omega)
  have hM : cM x S k c σ σ' := hc.toM hx lT
  have hQ' : SQ σ' x := hQ.gen hc (fun T hT => hc.row hx hT (lT T hT)) (fun T i hT q0 => by
    obtain ⟨g1, g2, s', n', d', g3⟩ := hQ.1 T i hT q0
    have f2 := g2.2.2.1.1
    have f3 := g2.2.2.2.1
    exact ⟨s', n', d', g3.kW hc ⟨n68 _ g1 (Or.inl g2.1), n68 _ (by omega) (Or.inr f2), n68 _ (by omega) (Or.inr f3)⟩⟩)
  have hmu : ∀ r, r < sz σ → S r → muS σ x r := fun r _ hr => by
    rcases hS r hr with h | h | h | h
    · exact Or.inl (by omega)
    · exact Or.inl (by omega)
    · exact Or.inr (Or.inr (Or.inl h))
    · exact Or.inr (Or.inr (Or.inr h))
  have hB := hM.toB hmu
  have ho2 : o = 11 ∨ o = 14 := ho
  have hx0 : ¬ S x := low 0 16 (by decide) (by omega) (by omega)
  have hI : xI [] x σ σ' := xI.of hc hx hx0
  refine ⟨⟨⟨hM.hp, hM.xs hx, hk.kB hB hx hQ, ht.kB hB hx hQ, hQ'⟩, ⟨t1.kW hc hx (hI.1 _ (fun q => by cases q)) (low 1 100 (by decide) (by omega) (by omega)), (hI.1 _ (fun q => by cases q)).trans t2, t3.kW hc hx (fun f _ => hI.1 f (fun q => by cases q)) (low 2 100 (by decide) (by omega) (by omega))⟩, ⟨?_, a2.kW hc hx hB hQ (low 8 104 (by decide) (by omega) (by omega)), hW⟩, ⟨⟨ho, (hI.2 _).trans p1.2.1, (hI.2 _).trans p1.2.2⟩, p2.kW2 hx hQ hc ?_ n68⟩, hh.kW2 hc hx hB hQ (hI.1 _ (fun q => by cases q)) (hI.1 _ (fun q => by cases q)) (low 17 106 (by decide) (by omega) (by omega)), w, wp, hw.kW hc hx (low 65 9 (by decide) (by omega) (by omega))⟩, hM⟩
  · unfold KAn
    rw [hI.2]
    exact KF.kB a1 hB hQ
  · rcases ho2 with rfl | rfl
    · exact ⟨low 14 13 (by decide) (by omega) (by omega), low 15 100 (by decide) (by omega) (by omega), low 16 104 (by decide) (by omega) (by omega)⟩
    · exact ⟨low 11 13 (by decide) (by omega) (by omega), low 12 100 (by decide) (by omega) (by omega), low 13 104 (by decide) (by omega) (by omega)⟩
/-- the text grew -/
theorem KI.tx {σ σ' : St} {x o : Nat} {s : Kst} {wr : List Nat} (h : KI σ x o s) (hT : TxF x (x + 9) σ σ' wr) : KI σ' x o (wrK s wr) ∧ ∃ k c, cO x k c σ σ' ∧ k + 2 * sN σ (sF σ (fid 1 0) (x + 9)) ≤ 2 * sN σ' (sF σ' (fid 1 0) (x + 9)) ∧ c + sN σ (sF σ (fid 1 0) (x + 9)) ≤ sN σ' (sF σ' (fid 1 0) (x + 9)) ∧ (sN σ' (sF σ' (fid 1 0) (x + 9)) = sN σ (sF σ (fid 1 0) (x + 9)) ∨ sN σ' (sF σ' (fid 1 0) (x + 9)) ≤ 2 * wr.length) := by
  obtain ⟨k, c, hc, hW, ha, hk, hd, hcap⟩ := hT
  have hWx := h.2.2.1.2.2
  have k101 := hWx.1.2.2.2.1.1
  have hz := h.1.2.1.1.2
  obtain ⟨h1, h2⟩ := h.fr hc (fun r hr => by
    rcases hr with q | q
    · exact Or.inr (Or.inl q)
    · subst q; exact Or.inr (Or.inr (Or.inl k101))) ⟨hW, by
    have h2 := hWx.2
    rcases ha with e | e
    · rw [e]; exact h2
    · exact Or.inr (by omega)⟩
  refine ⟨h1, k, c, h2.mo (fun r _ hr => ?_) (Nat.le_refl _) (Nat.le_refl _), hk, hd, hcap⟩
  rcases hr with q | q
  · exact Or.inl (by omega)
  · subst q; exact Or.inr (Or.inr k101)
/-- the text, and what it cost since σ0 -/
def TxK (x o : Nat) (s : Kst) (σ0 σ : St) (wr : List Nat) : Prop := KI σ x o (wrK s wr) ∧ ∃ k c, cO x k c σ0 σ ∧ k + 2 * sN σ0 (sF σ0 (fid 1 0) (x + 9)) ≤ 2 * sN σ (sF σ (fid 1 0) (x + 9)) ∧ c + sN σ0 (sF σ0 (fid 1 0) (x + 9)) ≤ sN σ (sF σ (fid 1 0) (x + 9)) ∧ (sN σ (sF σ (fid 1 0) (x + 9)) = sN σ0 (sF σ0 (fid 1 0) (x + 9)) ∨ sN σ (sF σ (fid 1 0) (x + 9)) ≤ 2 * wr.length)
theorem TxK.tx {x o : Nat} {s : Kst} {σ0 σ σ' : St} {wr wr' : List Nat} (h : TxK x o s σ0 σ wr) (hT : TxF x (x + 9) σ σ' wr') (hl : wr.length ≤ wr'.length) : TxK x o s σ0 σ' wr' := by
  obtain ⟨h1, k, c, g1, g2, g3, g4⟩ := h
  obtain ⟨h2, k', c', f1, f2, f3, f4⟩ := h1.tx hT
  exact ⟨h2, k + k', c + c', g1.tr f1, by omega, by omega, by omega⟩
theorem TxK.lw {x o : Nat} {s : Kst} {S : Nat → Prop} {σ0 σ σ' : St} {wr : List Nat} (h : TxK x o s σ0 σ wr) (hc : cW x S 0 0 σ σ') (hS : ∀ r, S r → x + 19 ≤ r ∧ r ≤ x + 64) : TxK x o s σ0 σ' wr := by
  obtain ⟨h1, k, c, g1, g2, g3, g4⟩ := h
  obtain ⟨h2, f1⟩ := h1.lowr hc hS
  have hW := h1.2.2.1.2.2
  have hz := hc.1.1.1.lt (a := sF σ (fid 1 0) (x + 9)) (by rw [hW.1.2.2.2.1.1]; omega)
  have s9 := hc.sam (a := x + 9) (by rw [hW.1.1]; omega) (Or.inl (by rw [hW.1.1]; omega)) (fun q => by have := hS _ q; omega)
  have e : sN σ' (sF σ' (fid 1 0) (x + 9)) = sN σ (sF σ (fid 1 0) (x + 9)) := by
    rw [s9.2.1, (hc.2.1.2 _ hz).2.1]
  rw [← e] at g2 g3 g4
  exact ⟨h2, k, c, g1.tr f1, g2, g3, g4⟩
theorem TxK.wr {x o : Nat} {s : Kst} {σ0 σ : St} {wr : List Nat} (h : TxK x o s σ0 σ wr) : KWr σ (x + 9) wr ∧ HP (PX x) σ ∧ XS σ x ∧ KTn σ x ∧ gF σ 15 10 x = some (x + 9) ∧ ckK σ 2 (x + 9) = some () :=
  ⟨h.1.2.2.1.2.2.1, h.1.1.1, h.1.1.2.1, h.1.1.2.2.2.1, h.1.1.2.1.gf 15 10 0 9 (by decide) (by decide), sm_ckK h.1.2.2.1.2.2.1.1⟩
theorem TxK.app {x o c : Nat} {s : Kst} {σ0 σ : St} {wr : List Nat} (h : TxK x o s σ0 σ wr) (hl : wr.length ≤ 1000) (hc : c < 128) : Hx (fJ4_append_cf468 σ (x + 9) (nI c)) (fun σ' _ => TxF x (x + 9) σ σ' (wr ++ [c]) ∧ TxK x o s σ0 σ' (wr ++ [c])) := by
  obtain ⟨hW, hp, _⟩ := h.wr
  refine ((TxF.rf hp hW).app hl hc).mo (fun σ' _ g => ⟨g, h.tx g ?_⟩)
  rw [List.length_append]
  omega
theorem TxK.cost {x o : Nat} {s : Kst} {σ0 σ : St} {wr : List Nat} (h : TxK x o s σ0 σ wr) : cO x (4 * wr.length) (2 * wr.length) σ0 σ := by
  obtain ⟨h1, k, c, g1, g2, g3, g4⟩ := h
  exact g1.mo (by omega) (by omega)
