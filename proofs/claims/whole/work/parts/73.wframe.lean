/-! ===== frames of the class by a predicate ===== -/
/-- as cF, the cells told by a predicate, the Nats that may grow those of PX -/
def cW (x : Nat) (S : Nat → Prop) (k c : Nat) (σ σ' : St) : Prop :=
  (HP (PX x) σ ∧ HP (PX x) σ') ∧ (sz σ ≤ sz σ' ∧ ∀ b, b < sz σ → sK σ' b = sK σ b ∧ sN σ' b = sN σ b ∧ ∀ f, mutF f = false → sF σ' f b = sF σ f b) ∧
  (∀ b, b < sz σ → (NL σ b → ¬ S b) → (∀ a, sK σ a = 8 → lb σ a = b → ¬ S a) → samC σ σ' b) ∧
  (∀ a, sK σ' a = 8 → (a < sz σ ∧ lb σ' a = lb σ a) ∨ (sz σ ≤ lb σ' a ∧ (a < sz σ → sN σ (lb σ a) ≤ sN σ' (lb σ' a)))) ∧
  sw σ' + 2 * Pot (PX x) σ ≤ sw σ + 2 * Pot (PX x) σ' + k ∧ sc σ' + Pot (PX x) σ ≤ sc σ + Pot (PX x) σ' + c
theorem cW.rf {x : Nat} {S : Nat → Prop} {σ : St} (h : HP (PX x) σ) : cW x S 0 0 σ σ :=
  ⟨⟨h, h⟩, ⟨Nat.le_refl _, fun _ _ => ⟨rfl, rfl, fun _ _ => rfl⟩⟩, fun _ _ _ _ => samC.rf, fun a ha => Or.inl ⟨h.1.lt (by rw [ha]; omega), rfl⟩, by omega, by omega⟩
theorem cW.hp {x : Nat} {S : Nat → Prop} {k c : Nat} {σ σ' : St} (h : cW x S k c σ σ') : HP (PX x) σ' := h.1.2
theorem cF.W {x : Nat} {L : List Nat} {S : Nat → Prop} {k c : Nat} {σ σ' : St} (h : cF (PX x) L k c σ σ') (hs : ∀ r ∈ L, S r) : cW x S k c σ σ' :=
  ⟨h.1, h.2.1, fun b hb q1 q2 => h.2.2.1 b hb (fun q q' => q1 q (hs b q')) (fun a ha e q => q2 a ha e (hs a q)), h.2.2.2⟩
theorem cW.mo {x : Nat} {S S' : Nat → Prop} {k c k' c' : Nat} {σ σ' : St} (h : cW x S k c σ σ') (hs : ∀ r, r < sz σ → S r → S' r) (hk : k ≤ k') (hc : c ≤ c') : cW x S' k' c' σ σ' := by
  obtain ⟨h1, h2, h3, h4, h5, h6⟩ := h
  exact ⟨h1, h2, fun b hb q1 q2 => h3 b hb (fun q q' => q1 q (hs b hb q')) (fun a ha e q => q2 a ha e (hs a (h1.1.1.lt (by rw [ha]; omega)) q)), h4, by omega, by omega⟩
theorem cW.nl {x : Nat} {S : Nat → Prop} {k c b : Nat} {σ σ' : St} (h : cW x S k c σ σ') (hb : b < sz σ) (hn : NL σ b) : NL σ' b := by
  intro a ha e
  rcases h.2.2.2.1 a ha with ⟨q1, q2⟩ | ⟨q1, _⟩
  · exact hn a (by rw [← (h.2.1.2 a q1).1]; exact ha) (by rw [← q2]; exact e)
  · omega
theorem cW.tr {x : Nat} {S S1 : Nat → Prop} {k c k' c' : Nat} {σ σ1 σ2 : St} (h1 : cW x S k c σ σ1) (h2 : cW x S1 k' c' σ1 σ2) (hS : ∀ r, r < sz σ → S1 r → S r) : cW x S (k + k') (c + c') σ σ2 := by
  obtain ⟨⟨a1, a2⟩, ⟨a3, a4⟩, a5, a6, a7, a8⟩ := id h1
  obtain ⟨⟨_, b2⟩, ⟨b3, b4⟩, b5, b6, b7, b8⟩ := id h2
  refine ⟨⟨a1, b2⟩, ⟨Nat.le_trans a3 b3, fun b hb => ?_⟩, fun b hb q1 q2 => ?_, fun a ha => ?_, by omega, by omega⟩
  · have e1 := a4 b hb
    have e2 := b4 b (by omega)
    exact ⟨e2.1.trans e1.1, e2.2.1.trans e1.2.1, fun f hf => (e2.2.2 f hf).trans (e1.2.2 f hf)⟩
  · have s1 := a5 b hb q1 q2
    refine s1.tr (b5 b (by omega) (fun q q' => ?_) (fun a ha e q => ?_))
    · by_cases hn : NL σ b
      · exact q1 hn (hS b hb q')
      · obtain ⟨a, ha⟩ := Classical.not_forall.mp hn
        obtain ⟨k8, hl⟩ := Classical.not_imp.mp ha
        have hl := Classical.not_not.mp hl
        have ha2 : a < sz σ := a1.1.lt (by rw [k8]; omega)
        have hS9 := q2 a k8 hl
        have sa := a5 a ha2 (fun _ => hS9) (fun a' k' e' => by
          have := (a1.1.2 a' k').1
          rw [e', k8] at this
          omega)
        exact q a (by rw [(a4 a ha2).1]; exact k8) ((sa.2.1 _).trans hl)
    · rcases a6 a ha with ⟨p1, p2⟩ | ⟨p1, _⟩
      · exact q2 a (by rw [← (a4 a p1).1]; exact ha) (by rw [← p2]; exact e) (hS a p1 q)
      · omega
  · rcases b6 a ha with ⟨p1, p2⟩ | ⟨p1, p2⟩
    · have ha1 : sK σ1 a = 8 := by rw [← (b4 a p1).1]; exact ha
      rcases a6 a ha1 with ⟨p3, p4⟩ | ⟨p3, p4⟩
      · exact Or.inl ⟨p3, p2.trans p4⟩
      · refine Or.inr ⟨by rw [p2]; exact p3, fun q => ?_⟩
        have := p4 q
        have hl := a2.1.lb ha1
        rw [p2, (b4 _ hl).2.1]
        exact this
    · by_cases hz : a < sz σ
      · have hk1 : sK σ1 a = 8 := by rw [← (b4 a (by omega)).1]; exact ha
        have := p2 (by omega)
        rcases a6 a hk1 with ⟨p3, p4⟩ | ⟨p3, p4⟩
        · refine Or.inr ⟨by omega, fun _ => ?_⟩
          have hk0 : sK σ a = 8 := by rw [← (a4 a hz).1]; exact hk1
          have hl := a1.1.lb hk0
          rw [p4, (a4 _ hl).2.1] at this
          exact this
        · exact Or.inr ⟨by omega, fun _ => Nat.le_trans (p4 hz) this⟩
      · exact Or.inr ⟨by omega, fun q => absurd q hz⟩
theorem cW.tr0 {x : Nat} {S S1 : Nat → Prop} {k c : Nat} {σ σ1 σ2 : St} (h1 : cW x S k c σ σ1) (h2 : cW x S1 0 0 σ1 σ2) (hS : ∀ r, r < sz σ → S1 r → S r) : cW x S k c σ σ2 := h1.tr h2 hS
theorem Nv.kW {x : Nat} {S : Nat → Prop} {k c a l n w y : Nat} {σ σ' : St} (h : Nv σ a l n w y) (hR : cW x S k c σ σ') (ha : ¬ S a) : Nv σ' a l n w y := by
  obtain ⟨⟨k1, k2, k3, k4, k5⟩, ⟨u1, u2, u3⟩, h3, h4⟩ := h
  obtain ⟨⟨a1, a2⟩, ⟨a3, a4⟩, a5, a6, a7, a8⟩ := id hR
  have ha2 : a < sz σ := a1.1.lt (by rw [k1]; omega)
  have hl2 : l < sz σ := a1.1.lt (by rw [k3]; omega)
  have sa := a5 a ha2 (fun _ => ha) (fun a' k' e' => by
    have := (a1.1.2 a' k').1
    rw [e', k1] at this
    omega)
  have sl := a5 l hl2 (fun q => absurd k2 (q a k1)) (fun a' k' e' => by
    have := (a1.1.2 a k1).2 a' k' (e'.trans k2.symm)
    rw [this]
    exact ha)
  refine ⟨⟨by rw [(a4 a ha2).1, k1], by rw [sa.2.1, k2], by rw [(a4 l hl2).1, k3], by rw [(a4 l hl2).2.1, k4], k5⟩, ⟨by rw [sa.1, u1], fun i hi => by rw [sl.2.2.1, u2 i hi], u3⟩, h3, h4⟩
theorem Nt.kW {x : Nat} {S : Nat → Prop} {k c a y : Nat} {σ σ' : St} (h : Nt σ a y) (hR : cW x S k c σ σ') (ha : ¬ S a) : Nt σ' a y := by
  obtain ⟨l, n, w, h⟩ := h
  exact ⟨l, n, w, h.kW hR ha⟩
theorem XS.kW {S : Nat → Prop} {k c x y : Nat} {σ σ' : St} (h : XS σ x) (hR : cW y S k c σ σ') : XS σ' x := by
  obtain ⟨⟨h0, h1⟩, h2, h3, h4, h5⟩ := h
  have b1 : ∀ p ∈ xK, p.1 < 85 := by decide
  have b2 : ∀ p ∈ xF, p.2.1 < 85 ∧ mutF p.1 = false := by decide
  have b3 : ∀ p ∈ xN, p.1 < 85 := by decide
  have b4 : ∀ o ∈ xA, o < 85 := by decide
  refine ⟨⟨h0, Nat.le_trans h1 hR.2.1.1⟩, fun p hp => ?_, fun p hp => ?_, fun p hp => ?_, fun o ho => ?_⟩
  · have := b1 p hp
    rw [(hR.2.1.2 (x + p.1) (by omega)).1]
    exact h2 p hp
  · have := b2 p hp
    rw [(hR.2.1.2 (x + p.2.1) (by omega)).2.2 _ this.2]
    exact h3 p hp
  · have := b3 p hp
    rw [(hR.2.1.2 (x + p.1) (by omega)).2.1]
    exact h4 p hp
  · have := b4 o ho
    exact hR.nl (by omega) (h5 o ho)
theorem cW.k {x : Nat} {S : Nat → Prop} {k c a κ : Nat} {σ σ' : St} (h : cW x S k c σ σ') (hk : sK σ a = κ) (h0 : κ ≠ 0) : sK σ' a = κ := by
  rw [(h.2.1.2 a (h.1.1.1.lt (by rw [hk]; exact h0))).1]
  exact hk
/-- a cell that is no limbs, off the frame, is the same -/
theorem cW.sam {x : Nat} {S : Nat → Prop} {k c a : Nat} {σ σ' : St} (h : cW x S k c σ σ') (h0 : sK σ a ≠ 0) (h1 : sK σ a ≠ 100 ∨ NL σ a) (ha : ¬ S a) : samC σ σ' a := by
  refine h.2.2.1 a (h.1.1.1.lt h0) (fun _ => ha) (fun b hb e => ?_)
  rcases h1 with h1 | h1
  · exact absurd ((h.1.1.1.2 b hb).1) (by show sK σ (lb σ b) ≠ 100; rw [e]; exact h1)
  · exact absurd e (h1 b hb)
theorem rm.kW {x : Nat} {S : Nat → Prop} {k c a Y : Nat} {σ σ' : St} (h : rm (PX x) σ a Y) (hR : cW x S k c σ σ') (h8 : sK σ a = 8) : rm (PX x) σ' a Y := by
  rcases h with h | h
  · exact Or.inl h
  · obtain ⟨⟨a1, a2⟩, ⟨a3, a4⟩, a5, a6, a7, a8⟩ := id hR
    have hz : a < sz σ := a1.1.lt (by rw [h8]; omega)
    refine Or.inr (Nat.lt_of_lt_of_le h (bp_mono ?_))
    rcases a6 a (by rw [(a4 a hz).1]; exact h8) with ⟨_, p2⟩ | ⟨_, p2⟩
    · rw [p2, (a4 _ (a1.1.lb h8)).2.1]
      exact Nat.le_refl _
    · exact p2 hz
/-! ===== fractions of the class ===== -/
/-- the shape of a fraction: its parts lie behind it -/
def FS (σ : St) (a : Nat) : Prop := sK σ a = 6 ∧ (sF σ (fid 5 1) a = a + 1 ∧ sF σ (fid 5 2) a = a + 3) ∧ (sK σ (a + 1) = 8 ∧ sK σ (a + 2) = 100) ∧ sK σ (a + 3) = 8 ∧ sK σ (a + 4) = 100
theorem FS.kW {x : Nat} {S : Nat → Prop} {k c a : Nat} {σ σ' : St} (h : FS σ a) (hR : cW x S k c σ σ') : FS σ' a := by
  obtain ⟨h1, ⟨h2, h3⟩, ⟨h4, h5⟩, h6, h7⟩ := h
  have hz : a < sz σ := hR.1.1.1.lt (by rw [h1]; omega)
  exact ⟨hR.k h1 (by omega), ⟨by rw [(hR.2.1.2 a hz).2.2 _ (by decide)]; exact h2, by rw [(hR.2.1.2 a hz).2.2 _ (by decide)]; exact h3⟩, ⟨hR.k h4 (by omega), hR.k h5 (by omega)⟩, hR.k h6 (by omega), hR.k h7 (by omega)⟩
theorem fx_n {σ : St} {a : Nat} (h : FS σ a) : gF σ 5 1 a = some (a + 1) := (sm_gF h.1).trans (congrArg some h.2.1.1)
theorem fx_d {σ : St} {a : Nat} (h : FS σ a) : gF σ 5 2 a = some (a + 3) := (sm_gF h.1).trans (congrArg some h.2.1.2)
theorem fx_i {σ : St} {a : Nat} (h : FS σ a) : gI σ 5 0 a = some (sI σ (fid 5 0) a) := sm_gI h.1
theorem fx_p {σ : St} {a : Nat} (h : FS σ a) (v : Int32) : pI σ 5 0 a v = some (wI σ (fid 5 0) a v) := sm_pI h.1
theorem fx_k {σ : St} {a : Nat} (h : FS σ a) : ckK σ 6 a = some () := sm_ckK h.1
theorem fx_kn {σ : St} {a : Nat} (h : FS σ a) : ckK σ 8 (a + 1) = some () := sm_ckK h.2.2.1.1
theorem fx_kd {σ : St} {a : Nat} (h : FS σ a) : ckK σ 8 (a + 3) = some () := sm_ckK h.2.2.2.1
theorem FS.ne {σ : St} {a b : Nat} (hA : FS σ a) (hB : FS σ b) (h : a ≠ b) : a + 2 ≠ b ∧ b + 2 ≠ a ∧ a + 1 ≠ b ∧ b + 1 ≠ a ∧ a + 3 ≠ b ∧ b + 3 ≠ a := by
  obtain ⟨h1, -, ⟨h4, h5⟩, h6, h7⟩ := hA
  obtain ⟨g1, -, ⟨g4, g5⟩, g6, g7⟩ := hB
  refine ⟨?_, ?_, ?_, ?_, ?_, ?_⟩ <;> intro e <;> first | (rw [← e] at g1; omega) | (rw [← e] at h1; omega)
/-- the sign of a fraction -/
def Sg (σ : St) (a : Nat) (s : Int) : Prop := sK σ a = 6 ∧ sI σ (fid 5 0) a = iz s
theorem Sg.kW {x : Nat} {S : Nat → Prop} {k c a : Nat} {s : Int} {σ σ' : St} (h : Sg σ a s) (hR : cW x S k c σ σ') (ha : ¬ S a) : Sg σ' a s :=
  ⟨hR.k h.1 (by omega), by rw [(hR.sam (by rw [h.1]; omega) (Or.inl (by rw [h.1]; omega)) ha).1]; exact h.2⟩
def FX (σ : St) (a : Nat) (s : Int) (n d : Nat) : Prop := FS σ a ∧ Sg σ a s ∧ Nt σ (a + 1) n ∧ Nt σ (a + 3) d
theorem FX.kW {x : Nat} {S : Nat → Prop} {k c a n d : Nat} {s : Int} {σ σ' : St} (h : FX σ a s n d) (hR : cW x S k c σ σ') (ha : ¬ S a ∧ ¬ S (a + 1) ∧ ¬ S (a + 3)) : FX σ' a s n d :=
  ⟨h.1.kW hR, h.2.1.kW hR ha.1, h.2.2.1.kW hR ha.2.1, h.2.2.2.kW hR ha.2.2⟩
theorem XS.fs {σ : St} {x : Nat} (h : XS σ x) (o : Nat) (ho : o = 45 ∨ o = 50 ∨ o = 55 ∨ o = 60 ∨ o = 80) : FS σ (x + o) := by
  rcases ho with rfl | rfl | rfl | rfl | rfl
  · exact ⟨h.kd 45 6 (by decide), ⟨h.sf 5 1 45 46 (by decide), h.sf 5 2 45 48 (by decide)⟩, ⟨h.kd 46 8 (by decide), h.kd 47 100 (by decide)⟩, h.kd 48 8 (by decide), h.kd 49 100 (by decide)⟩
  · exact ⟨h.kd 50 6 (by decide), ⟨h.sf 5 1 50 51 (by decide), h.sf 5 2 50 53 (by decide)⟩, ⟨h.kd 51 8 (by decide), h.kd 52 100 (by decide)⟩, h.kd 53 8 (by decide), h.kd 54 100 (by decide)⟩
  · exact ⟨h.kd 55 6 (by decide), ⟨h.sf 5 1 55 56 (by decide), h.sf 5 2 55 58 (by decide)⟩, ⟨h.kd 56 8 (by decide), h.kd 57 100 (by decide)⟩, h.kd 58 8 (by decide), h.kd 59 100 (by decide)⟩
  · exact ⟨h.kd 60 6 (by decide), ⟨h.sf 5 1 60 61 (by decide), h.sf 5 2 60 63 (by decide)⟩, ⟨h.kd 61 8 (by decide), h.kd 62 100 (by decide)⟩, h.kd 63 8 (by decide), h.kd 64 100 (by decide)⟩
  · exact ⟨h.kd 80 6 (by decide), ⟨h.sf 5 1 80 81 (by decide), h.sf 5 2 80 83 (by decide)⟩, ⟨h.kd 81 8 (by decide), h.kd 82 100 (by decide)⟩, h.kd 83 8 (by decide), h.kd 84 100 (by decide)⟩
/-- sets of cells -/
def s1 (a r : Nat) : Prop := r = a
def s2 (a b r : Nat) : Prop := r = a ∨ r = b
def s3 (a b c r : Nat) : Prop := r = a ∨ r = b ∨ r = c
def sG (x a r : Nat) : Prop := r = a ∨ x + 19 ≤ r ∧ r ≤ x + 27
/-- what the Reckoner writes on the way, and a fraction -/
def sR (x a r : Nat) : Prop := (x + 19 ≤ r ∧ r ≤ x + 40) ∨ r = a ∨ r = a + 1 ∨ r = a + 3
def sRc (x r : Nat) : Prop := x + 19 ≤ r ∧ r ≤ x + 40
/-- an int of a cell that is neither a Nat nor limbs is written -/
theorem cWi {x a f : Nat} {v : Int32} {σ : St} (hp : HP (PX x) σ) (h : sK σ a ≠ 8) (h2 : sK σ a ≠ 100) : cW x (s1 a) 0 0 σ (wI σ f a v) := by
  obtain ⟨ho, hP⟩ := hp
  have hPot : Pot (PX x) (wI σ f a v) = Pot (PX x) σ := Pot_same fun _ _ => rfl
  have e1 : sw (wI σ f a v) = sw σ := rfl
  have e2 : sc (wI σ f a v) = sc σ := rfl
  have ho2 : Own (wI σ f a v) := ho
  have hn : ∀ b z, Nt σ b z → Nt (wI σ f a v) b z := by
    rintro b z ⟨l, n, w, g1, g2, g3⟩
    refine ⟨l, n, w, g1, ⟨?_, g2.2⟩, g3⟩
    rw [sI_wI_a (fun e => h (by rw [← e]; exact g1.1))]
    exact g2.1
  refine ⟨⟨⟨ho, hP⟩, ho2, fun b hb => ?_⟩, ⟨Nat.le_refl _, fun _ _ => ⟨rfl, rfl, fun _ _ => rfl⟩⟩, fun b hb q1 q2 => ⟨fun g => ?_, fun _ => rfl, fun _ => rfl, fun _ => rfl, fun _ => rfl⟩, fun b hb => Or.inl ⟨ho.lt (a := b) (by show sK σ b ≠ 0; rw [show sK σ b = 8 from hb]; omega), rfl⟩, by omega, by omega⟩
  · obtain ⟨z, hz⟩ := hP b hb
    exact ⟨z, hn b z hz⟩
  · by_cases e : b = a
    · exact absurd e (q1 (by rw [e]; exact ho.nl h2))
    · exact sI_wI_a e
