/-! ===== what the class holds between two calls ===== -/
/-- a StringBuilder with a text -/
def KWr (σ : St) (b : Nat) (wr : List Nat) : Prop := sK σ b = 2 ∧ sI σ (fid 1 1) b = nI 0 ∧ sI σ (fid 1 3) b = nI wr.length ∧ (sK σ (sF σ (fid 1 0) b) = 101 ∧ wr.length ≤ sN σ (sF σ (fid 1 0) b) ∧ 16 ≤ sN σ (sF σ (fid 1 0) b) ∧ sN σ (sF σ (fid 1 0) b) ≤ 3000) ∧ ∀ i c, wr[i]? = some c → sA σ (sF σ (fid 1 0) b) i = nI c ∧ c < 128
/-- the class' own one -/
def KWx (σ : St) (x : Nat) (wr : List Nat) : Prop := KWr σ (x + 9) wr ∧ (sF σ (fid 1 0) (x + 9) = x + 10 ∨ x + 84 < sF σ (fid 1 0) (x + 9))
/-- the powers of ten -/
def KTn (σ : St) (x : Nat) : Prop := ∃ a, sF σ 9002 0 = a ∧ a < x ∧ sK σ a = 150 ∧ sN σ a = 10 ∧ ∀ i, i < 10 → sA σ a i = nI (10 ^ i)
theorem KTn.kB {x : Nat} {σ σ' : St} (h : KTn σ x) (hR : cB x σ σ') (hx : XS σ x) (hQ : SQ σ x) : KTn σ' x := by
  obtain ⟨a, h1, h2, h3, h4, h5⟩ := h
  obtain ⟨⟨S, k, c, a1, a2⟩, a3⟩ := hR
  have hz : a < sz σ := a1.1.1.1.lt (by omega)
  have h0 : 0 < sz σ := by have := hx.z; omega
  have hs := a1.sam (a := a) (by omega) (Or.inl (by omega)) (fun hs => by
    rcases a2 a hz hs with h | ⟨T, i, hT, g0, g⟩ | g | ⟨_, g⟩
    · omega
    · obtain ⟨_, ⟨f1, _, ⟨f2, _⟩, f3, _⟩, _⟩ := hQ.1 T i hT g0
      rcases g with g | g | g
      · rw [← g] at f1; omega
      · rw [← g] at f2; omega
      · rw [← g] at f3; omega
    · rw [g] at h3; omega
    · omega)
  exact ⟨a, ((a1.2.1.2 0 h0).2.2 9002 (by decide)).trans h1, h2, a1.k h3 (by omega), ((a1.2.1.2 a hz).2.1).trans h4, fun i hi => (hs.2.2.1 i).trans (h5 i hi)⟩
/-- the tape -/
def KTp (σ : St) (x : Nat) (t : List Nat) : Prop := sI σ (fid 15 1) x = nI t.length ∧ t.length ≤ 200 ∧ (∀ i b, t[i]? = some b → sA σ (x + 1) i = nI b) ∧ ∀ b ∈ t, 0 < b ∧ b < 256
abbrev Rfs := Int × Int × Int × List Int
/-- tape, error position, refusal, answer, slots, what is written, steps, the present state, the states -/
abbrev Kst := List Nat × Int × Rfs × Qv × List Qv × List Nat × Sts × Nat × List As
def KI0 (σ : St) (x : Nat) : Prop := HP (PX x) σ ∧ XS σ x ∧ KWs σ x ∧ KTn σ x ∧ SQ σ x
def KI (σ : St) (x o : Nat) (s : Kst) : Prop := KI0 σ x ∧ (KTp σ x s.1 ∧ sI σ (fid 15 2) x = iz s.2.1 ∧ KRef σ x s.2.2.1.1 s.2.2.1.2.1 s.2.2.1.2.2.1 s.2.2.1.2.2.2) ∧ (KAn σ x s.2.2.2.1 ∧ KSl σ x s.2.2.2.2.1 ∧ KWx σ x s.2.2.2.2.2.1) ∧ (KSp σ x o ∧ StS σ x (25 - o) s.2.2.2.2.2.2.1) ∧ KHis σ x s.2.2.2.2.2.2.2.1 s.2.2.2.2.2.2.2.2 ∧ ∃ w wp, Wpo σ x w wp
/-- cells that hold nothing between two calls -/
def sScr (σ : St) (x o r : Nat) : Prop := (x + 65 ≤ r ∧ r ≤ x + 74) ∨ sM σ x o r
theorem sM.low {σ : St} {x o r : Nat} (hQ : SQ σ x) (ho : oO o) (hr : r ≤ x + 84) (h : sM σ x o r) : (x + 19 ≤ r ∧ r ≤ x + 48) ∨ (x + 75 ≤ r ∧ r ≤ x + 83) ∨ (o ≠ 0 ∧ x + o ≤ r ∧ r ≤ x + o + 2) := by
  rcases h with h | h | ⟨i, g0, g⟩ | ⟨h0, h | ⟨i, g0, g⟩⟩
  · exact Or.inl h
  · exact Or.inr (Or.inl h)
  · have := (hQ.1 76 i (Or.inl rfl) g0).1
    omega
  · exact Or.inr (Or.inr ⟨h0, h⟩)
  · rcases ho with ho | ho
    · exact absurd ho h0
    · have := (hQ.1 (o + 2) i ho.t g0).1
      omega
theorem sScr.low {σ : St} {x o r : Nat} (hQ : SQ σ x) (ho : oO o) (hr : r ≤ x + 84) (h : sScr σ x o r) : (x + 19 ≤ r ∧ r ≤ x + 48) ∨ (x + 65 ≤ r ∧ r ≤ x + 83) ∨ (o ≠ 0 ∧ x + o ≤ r ∧ r ≤ x + o + 2) := by
  rcases h with h | h
  · exact Or.inr (Or.inl ⟨h.1, by omega⟩)
  · rcases h.low hQ ho hr with h | h | h
    · exact Or.inl h
    · exact Or.inr (Or.inl ⟨by omega, h.2⟩)
    · exact Or.inr (Or.inr h)
/-- cells of three kinds are no fractions: what is scratched of them is low -/
theorem sScr.ne {σ : St} {x o r : Nat} (hQ : SQ σ x) (ho : oO o) (h6 : sK σ r ≠ 6 ∧ sK σ r ≠ 8) (h : sScr σ x o r) : r ≤ x + 84 := by
  have key : ∀ T i, tMu T → fc (sQ σ (x + T) i) r → False := by
    rintro T i hT ⟨g0, g⟩
    obtain ⟨_, ⟨f1, _, ⟨f2, _⟩, f3, _⟩, _⟩ := hQ.1 T i hT g0
    rcases g with g | g | g
    · rw [← g] at f1; exact h6.1 f1
    · rw [← g] at f2; exact h6.2 f2
    · rw [← g] at f3; exact h6.2 f3
  rcases h with h | h | h | ⟨i, g⟩ | ⟨h0, h | ⟨i, g⟩⟩
  · omega
  · omega
  · omega
  · exact (key 76 i (Or.inl rfl) g).elim
  · rcases ho with ho | ho
    · exact absurd ho h0
    · rcases ho with rfl | rfl <;> omega
  · rcases ho with ho | ho
    · exact absurd ho h0
    · exact (key (o + 2) i ho.t g).elim
/-- what a call may write of old cells: not the reference's -/
def muO (σ : St) (x r : Nat) : Prop := (x ≤ r ∧ r ≤ x + 84 ∧ (r < x + 3 ∨ x + 7 < r)) ∨ (∃ T i, tMu T ∧ fc (sQ σ (x + T) i) r) ∨ sK σ r = 101
theorem muO.S {σ : St} {x r : Nat} (h : muO σ x r) : muS σ x r := h.imp_right (fun h => h.imp_right Or.inl)
theorem muO.up {x r : Nat} {σ σ1 : St} (h1 : aE x σ σ1) (hr : r < sz σ) (hk : sK σ1 r = sK σ r) (h : muO σ1 x r) : muO σ x r := by
  rcases h with h | ⟨T, i, hT, h0, h⟩ | h
  · exact Or.inl h
  · rcases h1 T i hT with e | ⟨e1, e2⟩
    · rw [e] at h0 h
      exact Or.inr (Or.inl ⟨T, i, hT, h0, h⟩)
    · exfalso; omega
  · exact Or.inr (Or.inr (by rw [← hk]; exact h))
theorem sScr.mo {σ : St} {x o r : Nat} (ho : oO o) (h : sScr σ x o r) : muO σ x r := by
  rcases h with h | h | h | ⟨i, g⟩ | ⟨h0, h | ⟨i, g⟩⟩
  · exact Or.inl ⟨by omega, by omega, by omega⟩
  · exact Or.inl ⟨by omega, by omega, by omega⟩
  · exact Or.inl ⟨by omega, by omega, by omega⟩
  · exact Or.inr (Or.inl ⟨76, i, Or.inl rfl, g⟩)
  · rcases ho with ho | ho
    · exact absurd ho h0
    · rcases ho with rfl | rfl <;> exact Or.inl ⟨by omega, by omega, by omega⟩
  · rcases ho with ho | ho
    · exact absurd ho h0
    · exact Or.inr (Or.inl ⟨o + 2, i, ho.t, g⟩)
theorem sScr.mu {σ : St} {x o r : Nat} (ho : oO o) (h : sScr σ x o r) : muS σ x r := (h.mo ho).S
theorem KWr.kW {σ σ' : St} {x b k c : Nat} {wr : List Nat} {S : Nat → Prop} (h : KWr σ b wr) (hF : cW x S k c σ σ') (h1 : ¬ S b) (h2 : ¬ S (sF σ (fid 1 0) b)) : KWr σ' b wr := by
  obtain ⟨g1, g2, g3, ⟨g4, g5, g6, g7⟩, g8⟩ := h
  have s1 := hF.sam (a := b) (by omega) (Or.inl (by omega)) h1
  have s2 := hF.sam (a := sF σ (fid 1 0) b) (by omega) (Or.inl (by omega)) h2
  have hz := hF.1.1.1.lt (a := sF σ (fid 1 0) b) (by omega)
  unfold KWr
  rw [s1.2.1, (hF.2.1.2 _ hz).1, (hF.2.1.2 _ hz).2.1]
  exact ⟨hF.k g1 (by omega), (s1.1 _).trans g2, (s1.1 _).trans g3, ⟨g4, g5, g6, g7⟩, fun i c hc => by rw [s2.2.2.1]; exact g8 i c hc⟩
theorem KTp.kW {σ σ' : St} {x k c : Nat} {t : List Nat} {S : Nat → Prop} (h : KTp σ x t) (hF : cW x S k c σ σ') (hx : XS σ x) (h0 : sI σ' (fid 15 1) x = sI σ (fid 15 1) x) (h1 : ¬ S (x + 1)) : KTp σ' x t := by
  have k1 : sK σ (x + 1) = 100 := hx.kd 1 100 (by decide)
  have s1 := hF.sam (a := x + 1) (by omega) (Or.inr (hx.2.2.2.2 1 (by decide))) h1
  exact ⟨h0.trans h.1, h.2.1, fun i b hb => by rw [s1.2.2.1]; exact h.2.2.1 i b hb, h.2.2.2⟩
theorem KRef.kW {σ σ' : St} {x k c : Nat} {u v w : Int} {rg : List Int} {S : Nat → Prop} (h : KRef σ x u v w rg) (hF : cW x S k c σ σ') (hx : XS σ x) (h0 : ∀ f ∈ rfL, sI σ' f x = sI σ f x) (h2 : ¬ S (x + 2)) : KRef σ' x u v w rg := by
  have k1 : sK σ (x + 2) = 100 := hx.kd 2 100 (by decide)
  have s1 := hF.sam (a := x + 2) (by omega) (Or.inr (hx.2.2.2.2 2 (by decide))) h2
  obtain ⟨g1, g2, g3, g4, g5, g6⟩ := h
  refine ⟨(h0 _ (by simp)).trans g1, (h0 _ (by simp)).trans g2, (h0 _ (by simp)).trans g3, (h0 _ (by simp)).trans g4, g5, fun i z hz => by rw [s1.2.2.1]; exact g6 i z hz⟩
theorem KSl.kW {σ σ' : St} {x k c : Nat} {qs : List Qv} {S : Nat → Prop} (h : KSl σ x qs) (hF : cW x S k c σ σ') (hx : XS σ x) (hB : cB x σ σ') (hQ : SQ σ x) (h8 : ¬ S (x + 8)) : KSl σ' x qs := by
  have k8 : sK σ (x + 8) = 104 := hx.kd 8 104 (by decide)
  have s1 := hF.sam (a := x + 8) (by omega) (Or.inl (by omega)) h8
  exact ⟨h.1, fun i q hi => by rw [s1.2.2.2.2]; exact (h.2 i q hi).kB hB hQ⟩
theorem KHis.kW2 {σ σ' : St} {x now k c : Nat} {S : Nat → Prop} {H : List As} (h : KHis σ x now H) (hF : cW x S k c σ σ') (hx : XS σ x) (hB : cB x σ σ') (hQ : SQ σ x) (h0 : sI σ' (fid 15 14) x = sI σ (fid 15 14) x) (h1 : sI σ' (fid 15 15) x = sI σ (fid 15 15) x) (h17 : ¬ S (x + 17)) : KHis σ' x now H := by
  obtain ⟨⟨g1, g2, g3⟩, hi⟩ := h
  have k17 : sK σ (x + 17) = 106 := hx.kd 17 106 (by decide)
  have s2 := hF.sam (a := x + 17) (by omega) (Or.inl (by omega)) h17
  refine ⟨⟨h0.trans g1, h1.trans g2, g3⟩, fun i A hA => ?_⟩
  rw [s2.2.2.2.2]
  exact (hi i A hA).kB hB hQ
theorem Wpo.kW {σ σ' : St} {x w wp k c : Nat} {S : Nat → Prop} (h : Wpo σ x w wp) (hF : cW x S k c σ σ') (hx : XS σ x) (h65 : ¬ S (x + 65)) : Wpo σ' x w wp := by
  have k9 := hx.k9
  have s1 := hF.sam (a := x + 65) (by omega) (Or.inl (by omega)) h65
  exact ⟨⟨(s1.1 _).trans h.1.1, h.1.2⟩, (s1.1 _).trans h.2.1, h.2.2⟩
/-- kept steps: apart from what is scratched -/
theorem StS.scr {x o k c : Nat} {sts : Sts} {S : Nat → Prop} {σ σ' : St} (h : StS σ x (25 - o) sts) (hx : XS σ x) (hQ : SQ σ x) (ho : oS o) (hF : cM x S k c σ σ') (hS : ∀ r, S r → sScr σ x o r ∨ r = x ∨ r = x + 1 ∨ r = x + 2 ∨ r = x + 8 ∨ r = x + 9 ∨ r = x + 17) : StS σ' x (25 - o) sts := by
  have ho2 : o = 11 ∨ o = 14 := ho
  rcases h with h | ⟨ho', e1, e2⟩
  · exact absurd h (by omega)
  · obtain ⟨k0, c0, hW⟩ := hF.w
    have hao := hF.2
    obtain ⟨⟨k1, k2, k3, k4, k5⟩, _⟩ := hx.o ho'
    have kT : sK σ (x + (25 - o + 2)) = 104 := hx.k104 ho'.t
    have low : ∀ r, r ≤ x + 84 → (x + (25 - o) ≤ r ∧ r ≤ x + (25 - o) + 2) → ¬ S r := by
      intro r hr hr2 hs
      rcases hS r hs with h | h
      · have := h.low hQ (Or.inr ho) hr
        omega
      · omega
    have s1 := hW.sam (a := x + (25 - o)) (by omega) (Or.inl (by omega)) (low _ (by omega) (by omega))
    have s2 := hW.sam (a := x + (25 - o + 1)) (by omega) (Or.inr k5) (low _ (by omega) (by omega))
    have s3 := hW.sam (a := x + (25 - o + 2)) (by omega) (Or.inl (by omega)) (low _ (by omega) (by omega))
    refine Or.inr ⟨ho', (s1.1 _).trans e1, fun j s hj => ?_⟩
    obtain ⟨q1, q2, q3, q4⟩ := e2 j s hj
    have hlow := (hQ.1 (25 - o + 2) j ho'.t q2).1
    have off : ∀ r, (r = sQ σ (x + (25 - o + 2)) j ∨ r = sQ σ (x + (25 - o + 2)) j + 1 ∨ r = sQ σ (x + (25 - o + 2)) j + 3) → ¬ S r := by
      intro r hr hs
      have key : ∀ T i, tMu T → T ≠ 25 - o + 2 → fc (sQ σ (x + T) i) r → False := by
        rintro T i hT hne ⟨g0, g⟩
        have := hQ.off hT ho'.t g0 q2 (fun q => hne q.1)
        omega
      rcases hS r hs with (h | h | h | ⟨i, g⟩ | ⟨h0, h | ⟨i, g⟩⟩) | h
      · omega
      · omega
      · omega
      · exact key 76 i (Or.inl rfl) (by omega) g
      · omega
      · exact key (o + 2) i ho.t (by omega) g
      · omega
    rw [s2.2.2.1, s3.2.2.2.2]
    exact ⟨q1, q2, q3.kW hW ⟨off _ (Or.inl rfl), off _ (Or.inr (Or.inl rfl)), off _ (Or.inr (Or.inr rfl))⟩, q4⟩
theorem KI0.scr {σ σ' : St} {x o k c : Nat} {S : Nat → Prop} (h : KI0 σ x) (ho : oS o) (hF : cM x S k c σ σ') (hQ' : SQ σ' x) (hS : ∀ r, S r → sScr σ x o r ∨ r = x ∨ r = x + 1 ∨ r = x + 2 ∨ r = x + 8 ∨ r = x + 9 ∨ r = x + 17) : KI0 σ' x ∧ cB x σ σ' := by
  obtain ⟨hp, hx, hk, ht, hQ⟩ := h
  have hB := hF.toB (fun r _ hs => by
    rcases hS r hs with h | h
    · exact h.mu (Or.inr ho)
    · exact Or.inl ⟨by omega, by omega, by omega⟩)
  exact ⟨⟨hF.hp, hF.xs hx, hk.kB hB hx hQ, ht.kB hB hx hQ, hQ'⟩, hB⟩
/-- only cells that hold nothing are written -/
theorem KI.scr {σ σ' : St} {x o k c : Nat} {s : Kst} {S : Nat → Prop} (h : KI σ x o s) (hF : cM x S k c σ σ') (hQ' : SQ σ' x) (hS : ∀ r, S r → sScr σ x o r) (hW : ∃ w wp, Wpo σ' x w wp) : KI σ' x o s := by
  obtain ⟨h0, ⟨t1, t2, t3⟩, ⟨a1, a2, a3, a4⟩, ⟨p1, p2⟩, hh, _⟩ := h
  have ho := p1.1
  obtain ⟨g0, hB⟩ := h0.scr ho hF hQ' (fun r hr => Or.inl (hS r hr))
  obtain ⟨hp, hx, hk, ht, hQ⟩ := h0
  obtain ⟨k0, c0, hc⟩ := hF.w
  have ho2 : o = 11 ∨ o = 14 := ho
  have low : ∀ r, r ≤ x + 84 → (r ≤ x + 10 ∨ r = x + 17) → ¬ S r := by
    intro r hr hr2 hs
    have := (hS r hs).low hQ (Or.inr ho) hr
    omega
  have hI : xI [] x σ σ' := xI.of hc hx (low x (by omega) (by omega))
  refine ⟨g0, ⟨t1.kW hc hx (hI.1 _ (fun q => by cases q)) (low _ (by omega) (by omega)), (hI.1 _ (fun q => by cases q)).trans t2, t3.kW hc hx (fun f _ => hI.1 f (fun q => by cases q)) (low _ (by omega) (by omega))⟩, ⟨?_, a2.kW hc hx hB hQ (low _ (by omega) (by omega)), ⟨a3.kW hc (low _ (by omega) (by omega)) (fun hs => ?_), ?_⟩⟩, ⟨⟨ho, (hI.2 _).trans p1.2.1, (hI.2 _).trans p1.2.2⟩, p2.scr hx hQ ho hF (fun r hr => Or.inl (hS r hr))⟩, hh.kW2 hc hx hB hQ (hI.1 _ (fun q => by cases q)) (hI.1 _ (fun q => by cases q)) (low _ (by omega) (by omega)), hW⟩
  · unfold KAn
    rw [hI.2]
    exact KF.kB a1 hB hQ
  · have k101 := a3.2.2.2.1.1
    have hs2 := hS _ hs
    have hlow3 := a4
    have hle := hs2.ne hQ (Or.inr ho) (by omega)
    have hlo := hs2.low hQ (Or.inr ho) hle
    rcases hlow3 with e | e <;> omega
  · have k2 := a3.1
    rw [(hc.sam (a := x + 9) (by omega) (Or.inl (by omega)) (low _ (by omega) (by omega))).2.1]
    exact a4
