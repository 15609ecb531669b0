/-! ===== both sides apart: the reference's picture ===== -/
/-- what a picture of the reference is read from -/
theorem RI.st {σ σ' : St} {m : Nat} {c : Rct} {s : Rst} (h : RI σ m c s) (hK : MS σ' m) (hi : ∀ f, sI σ' (fid 16 f) m = sI σ (fid 16 f) m) (ha : ∀ j, 1 ≤ j → j ≤ 44 → sA σ' (m + j) = sA σ (m + j)) : RI σ' m c s := by
  have h3 := ha 3 (by omega) (by omega)
  have h4 := ha 4 (by omega) (by omega)
  have h5 := ha 5 (by omega) (by omega)
  have h6 := ha 6 (by omega) (by omega)
  have h7 := ha 7 (by omega) (by omega)
  have h8 := ha 8 (by omega) (by omega)
  have h9 := ha 9 (by omega) (by omega)
  have h10 := ha 10 (by omega) (by omega)
  have h11 := ha 11 (by omega) (by omega)
  have h12 := ha 12 (by omega) (by omega)
  have h18 := ha 18 (by omega) (by omega)
  have h19 := ha 19 (by omega) (by omega)
  have h20 := ha 20 (by omega) (by omega)
  have h25 := ha 25 (by omega) (by omega)
  have h35 := ha 35 (by omega) (by omega)
  have h36 := ha 36 (by omega) (by omega)
  have h37 := ha 37 (by omega) (by omega)
  have h39 := ha 39 (by omega) (by omega)
  have h40 := ha 40 (by omega) (by omega)
  have h41 := ha 41 (by omega) (by omega)
  have h43 := ha 43 (by omega) (by omega)
  have eV : ∀ i q, Vl σ' m i q = Vl σ m i q := fun i q => by unfold Vl; rw [h3, h4]
  have eK : ∀ vm i q, Kv σ' m vm i q = Kv σ m vm i q := fun vm i q => by unfold Kv; rw [eV]
  have eI : ∀ vm k it, Itm σ' m vm k it = Itm σ m vm k it := fun vm k it => by unfold Itm; simp only [h6, h7, h8, h9, eK]
  have eL : ∀ vm k l, Its σ' m vm k l = Its σ m vm k l := fun vm k l => by unfold Its; simp only [eI]
  have eD : ∀ vm k0 dn d l np, Dfk σ' m vm k0 dn d l np = Dfk σ m vm k0 dn d l np := fun vm k0 dn d l np => by unfold Dfk; simp only [h10, h11, h12, eL]
  have eW : ∀ vm cn cv rs, Rws σ' m vm cn cv rs = Rws σ m vm cn cv rs := fun vm cn cv rs => by unfold Rws; simp only [eK]
  have eS : ∀ vm k0 dn c A, Snp σ' m vm k0 dn c A = Snp σ m vm k0 dn c A := fun vm k0 dn c A => by unfold Snp; simp only [eD, eK, eW]
  have eA : ∀ vm k0 dn U UA, All2 σ' m vm k0 dn U UA = All2 σ m vm k0 dn U UA := fun vm k0 dn U UA => by unfold All2; simp only [eS]
  have eC : curR σ' m = curR σ m := by unfold curR; rw [hi, hi, h18, h19, h20, h36, h37]
  have eF : ∀ f v, Fi σ' m f v = Fi σ m f v := fun f v => by unfold Fi; rw [hi]
  have eH : ∀ c U D, RHi σ' m c U D = RHi σ m c U D := fun c U D => by unfold RHi RHs; rw [eC, h39, h40, eF, eF]
  have eR : ∀ vm k0 dn A UA DA, RH σ' m vm k0 dn A UA DA = RH σ m vm k0 dn A UA DA := fun vm k0 dn A UA DA => by unfold RH; simp only [eH, eS, eA]
  have e1 : ∀ t, RTx σ' m t = RTx σ m t := fun t => by unfold RTx; rw [eF, h5]
  have e2 : ∀ r, RRf σ' m r = RRf σ m r := fun r => by unfold RRf; simp only [eF, h35]
  have e3 : ∀ vm q, RAn σ' m vm q = RAn σ m vm q := fun vm q => by unfold RAn; simp only [eF, eK]
  have e4 : ∀ vm qs, RSl σ' m vm qs = RSl σ m vm qs := fun vm qs => by unfold RSl; simp only [h41, eK]
  have e5 : ∀ wr, RWr σ' m wr = RWr σ m wr := fun wr => by unfold RWr; rw [eF, h43]
  have e6 : ∀ sts, Shn σ' m sts = Shn σ m sts := fun sts => by unfold Shn; simp only [eF, h25, eV]
  unfold RI at h ⊢
  rw [e1, e2, e3, e4, e5, e6, eR, eF, eF, eF, eF]
  exact ⟨⟨hK, h.1.2⟩, h.2⟩
/-- the array for answers, and no Nat's limbs among the reference's cells -/
def Jn (σ : St) (x : Nat) : Prop := (∀ r, mR x r → NL σ r) ∧ sK σ (x + 143) = 103 ∧ sN σ (x + 143) = 1
theorem MS.kk {σ : St} {m : Nat} (h : MS σ m) : ∀ j, j ≤ 44 → sK σ (m + j) = 17 ∨ sK σ (m + j) = 100 ∨ sK σ (m + j) = 102 := by
  unfold MS rfS at h
  intro j hj
  have e : j = 0 ∨ j = 1 ∨ j = 2 ∨ j = 3 ∨ j = 4 ∨ j = 5 ∨ j = 6 ∨ j = 7 ∨ j = 8 ∨ j = 9 ∨ j = 10 ∨ j = 11 ∨ j = 12 ∨ j = 13 ∨ j = 14 ∨ j = 15 ∨ j = 16 ∨ j = 17 ∨ j = 18 ∨ j = 19 ∨ j = 20 ∨ j = 21 ∨ j = 22 ∨ j = 23 ∨ j = 24 ∨ j = 25 ∨ j = 26 ∨ j = 27 ∨ j = 28 ∨ j = 29 ∨ j = 30 ∨ j = 31 ∨ j = 32 ∨ j = 33 ∨ j = 34 ∨ j = 35 ∨ j = 36 ∨ j = 37 ∨ j = 38 ∨ j = 39 ∨ j = 40 ∨ j = 41 ∨ j = 42 ∨ j = 43 ∨ j = 44 := by omega
  rcases e with rfl | rfl | rfl | rfl | rfl | rfl | rfl | rfl | rfl | rfl | rfl | rfl | rfl | rfl | rfl | rfl | rfl | rfl | rfl | rfl | rfl | rfl | rfl | rfl | rfl | rfl | rfl | rfl | rfl | rfl | rfl | rfl | rfl | rfl | rfl | rfl | rfl | rfl | rfl | rfl | rfl | rfl | rfl | rfl | rfl <;> simp only [h, true_or, or_true, Nat.add_zero]
/-- the cells of the reference and the array: which kinds -/
theorem jn_k {σ : St} {x : Nat} (hJ : Jn σ x) (hM : MS σ (x + 98)) {r : Nat} (hr : mR x r) : mRK σ x r := by
  refine ⟨hr, ?_⟩
  unfold mR at hr
  by_cases c : r = x + 143
  · rw [c]; exact Or.inr (Or.inr (Or.inr hJ.2.1))
  · obtain ⟨j, rfl⟩ : ∃ j, r = x + 98 + j := ⟨r - (x + 98), by omega⟩
    rcases hM.kk j (by omega) with h | h | h
    · exact Or.inl h
    · exact Or.inr (Or.inl h)
    · exact Or.inr (Or.inr (Or.inl h))
theorem mRK.n {σ : St} {x r : Nat} (hQ : SQ σ x) (h : mRK σ x r) : ¬ muO σ x r := by
  obtain ⟨h1, h2⟩ := h
  unfold mR at h1
  rintro (q | ⟨T, i, hT, g0, g⟩ | q)
  · omega
  · obtain ⟨_, ⟨f1, _, ⟨f2, _⟩, f3, _⟩, _⟩ := hQ.1 T i hT g0
    rcases g with g | g | g
    · rw [← g] at f1; omega
    · rw [← g] at f2; omega
    · rw [← g] at f3; omega
  · omega
/-- MS over a frame that leaves its cells -/
theorem MS.of {σ σ' : St} {m : Nat} (h : MS σ m) (hK : ∀ j, j ≤ 44 → sK σ' (m + j) = sK σ (m + j)) (hN : ∀ j, j ≤ 44 → sN σ' (m + j) = sN σ (m + j)) (hF : ∀ f, sF σ' f m = sF σ f m) : MS σ' m := by
  have hk0 := hK 0 (by omega)
  unfold MS rfS at h ⊢
  rw [Nat.add_zero] at hk0
  simp only [hF, hk0]
  rw [hK 1 (by omega), hK 2 (by omega), hK 3 (by omega), hK 4 (by omega), hK 5 (by omega), hK 6 (by omega), hK 7 (by omega), hK 8 (by omega), hK 9 (by omega), hK 10 (by omega), hK 11 (by omega), hK 12 (by omega), hK 13 (by omega), hK 14 (by omega), hK 15 (by omega), hK 16 (by omega), hK 17 (by omega), hK 18 (by omega), hK 19 (by omega), hK 20 (by omega), hK 21 (by omega), hK 22 (by omega)]
  rw [hK 23 (by omega), hK 24 (by omega), hK 25 (by omega), hK 26 (by omega), hK 27 (by omega), hK 28 (by omega), hK 29 (by omega), hK 30 (by omega), hK 31 (by omega), hK 32 (by omega), hK 33 (by omega), hK 34 (by omega), hK 35 (by omega), hK 36 (by omega), hK 37 (by omega), hK 38 (by omega), hK 39 (by omega), hK 40 (by omega), hK 41 (by omega), hK 42 (by omega), hK 43 (by omega), hK 44 (by omega)]
  rw [hN 1 (by omega), hN 2 (by omega), hN 3 (by omega), hN 4 (by omega), hN 5 (by omega), hN 6 (by omega), hN 7 (by omega), hN 8 (by omega), hN 9 (by omega), hN 10 (by omega), hN 11 (by omega), hN 12 (by omega), hN 13 (by omega), hN 14 (by omega), hN 15 (by omega), hN 16 (by omega), hN 17 (by omega), hN 18 (by omega), hN 19 (by omega), hN 20 (by omega), hN 21 (by omega), hN 22 (by omega)]
  rw [hN 23 (by omega), hN 24 (by omega), hN 25 (by omega), hN 26 (by omega), hN 27 (by omega), hN 28 (by omega), hN 29 (by omega), hN 30 (by omega), hN 31 (by omega), hN 32 (by omega), hN 33 (by omega), hN 34 (by omega), hN 35 (by omega), hN 36 (by omega), hN 37 (by omega), hN 38 (by omega), hN 39 (by omega), hN 40 (by omega), hN 41 (by omega), hN 42 (by omega), hN 43 (by omega), hN 44 (by omega)]
  exact h
/-- a call of the class: the reference stays -/
theorem RI.cO {σ σ' : St} {x k c : Nat} {cc : Rct} {s : Rst} (h : RI σ (x + 98) cc s) (hJ : Jn σ x) (hx : XS σ x) (hQ : SQ σ x) (hO : cO x k c σ σ') : RI σ' (x + 98) cc s ∧ Jn σ' x := by
  obtain ⟨k0, c0, hF⟩ := cM.w hO
  have hM := h.1.1
  have hz := hx.zz
  have sam : ∀ r, mR x r → samC σ σ' r := fun r hr => by
    have hk := jn_k hJ hM hr
    exact hF.sam (by have := hk.2; omega) (Or.inr (hJ.1 r hr)) (hk.n hQ)
  have mj : ∀ j, j ≤ 44 → mR x (x + 98 + j) := fun j hj => by unfold mR; omega
  have m0 : mR x (x + 98) := by unfold mR; omega
  have m143 : mR x (x + 143) := by unfold mR; omega
  refine ⟨h.st (hM.of (fun j hj => (hF.2.1.2 _ (by omega)).1) (fun j hj => (hF.2.1.2 _ (by omega)).2.1) (fun f => (sam _ m0).2.1 f)) (fun f => (sam _ m0).1 _) (fun j h1 h2 => funext fun i => (sam _ (mj j h2)).2.2.1 i), fun r hr => hF.nl (by unfold mR at hr; omega) (hJ.1 r hr), (hF.2.1.2 _ (by omega)).1.trans hJ.2.1, (hF.2.1.2 _ (by omega)).2.1.trans hJ.2.2⟩
/-- a call of the reference, as a frame of the class -/
theorem cW.rfE {σ σ' : St} {x : Nat} (hp : HP (PX x) σ) (hJ : Jn σ x) (hM : MS σ (x + 98)) (hE : rfE (x + 98) σ σ') : cW x (mRK σ x) 0 0 σ σ' := by
  obtain ⟨⟨a1, a2, a3, a4, a5⟩, ⟨a6, a7, a8⟩, a9, a10⟩ := hE
  obtain ⟨ho, hP⟩ := hp
  have el : ∀ a, lb σ' a = lb σ a := fun a => by show sF σ' (fid 7 0) a = sF σ (fid 7 0) a; rw [a2]
  have ho2 : Own σ' := by
    unfold Own at ho ⊢
    rw [a1, a6]
    simp only [el]
    exact ho
  have off : ∀ r, ¬ mR x r → samC σ σ' r := fun r hr => by
    unfold mR at hr
    have h1 : r ≠ x + 98 := by omega
    exact ⟨fun f => a9 f r h1, fun f => by rw [a2], fun j => by rw [a10 r (by omega)], fun j => by rw [a4], fun j => by rw [a5]⟩
  have hn : ∀ a z, Nt σ a z → Nt σ' a z := by
    rintro a z ⟨l, n, w, ⟨g1, g2, g3, g4, g5⟩, ⟨u1, u2, u3⟩, g7⟩
    have hl : ¬ mR x l := fun q => hJ.1 l q a g1 g2
    have ha : ¬ mR x a := fun q => by have := (jn_k hJ hM q).2; omega
    refine ⟨l, n, w, ⟨by rw [a1]; exact g1, by rw [a2]; exact g2, by rw [a1]; exact g3, by rw [a3]; exact g4, g5⟩, ⟨by rw [(off a ha).1]; exact u1, fun i hi => by rw [(off l hl).2.2.1]; exact u2 i hi, u3⟩, g7⟩
  have hPot : Pot (PX x) σ' = Pot (PX x) σ := Pot_same fun a _ => by rw [el, a3]
  refine ⟨⟨⟨ho, hP⟩, ho2, fun a ha => ?_⟩, ⟨by omega, fun b _ => ⟨by rw [a1], by rw [a3], fun f _ => by rw [a2]⟩⟩, fun b hb q1 q2 => ?_, fun a ha => Or.inl ⟨ho.lt (a := a) (by rw [a1] at ha; omega), el a⟩, by omega, by omega⟩
  · obtain ⟨z, hz⟩ := hP a ha
    exact ⟨z, hn a z hz⟩
  · by_cases c : mR x b
    · exact absurd (jn_k hJ hM c) (q1 (hJ.1 b c))
    · exact off b c
