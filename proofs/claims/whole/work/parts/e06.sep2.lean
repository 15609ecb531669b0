/-! ===== both sides apart: small frames ===== -/
theorem cW_wz {σ : St} {x z : Nat} (hp : HP (PX x) σ) (hz : sz σ ≤ z) : cW x s0 0 0 σ (wz σ z) := by
  obtain ⟨ho, hP⟩ := hp
  have ho2 : Own (wz σ z) := ⟨⟨ho.1.1, fun a (ha : z ≤ a) => ho.1.2 a (by omega)⟩, ho.2⟩
  have hPot : Pot (PX x) (wz σ z) = Pot (PX x) σ := Pot_same fun _ _ => rfl
  have e1 : sw (wz σ z) = sw σ := rfl
  have e2 : sc (wz σ z) = sc σ := rfl
  exact ⟨⟨⟨ho, hP⟩, ho2, hP⟩, ⟨hz, fun _ _ => ⟨rfl, rfl, fun _ _ => rfl⟩⟩, fun _ _ _ _ => ⟨fun _ => rfl, fun _ => rfl, fun _ => rfl, fun _ => rfl, fun _ => rfl⟩, fun a ha => Or.inl ⟨ho.lt (a := a) (by show sK σ a ≠ 0; rw [show sK σ a = 8 from ha]; omega), rfl⟩, by omega, by omega⟩
theorem cW_th {σ : St} {x : Nat} (hp : HP (PX x) σ) : cW x s0 6 1 σ (th σ) := by
  obtain ⟨ho, hP⟩ := hp
  have hPot : Pot (PX x) (th σ) = Pot (PX x) σ := Pot_same fun _ _ => rfl
  have e1 : sw (th σ) = sw σ + 6 := rfl
  have e2 : sc (th σ) = sc σ + 1 := rfl
  exact ⟨⟨⟨ho, hP⟩, ho, hP⟩, ⟨Nat.le_refl _, fun _ _ => ⟨rfl, rfl, fun _ _ => rfl⟩⟩, fun _ _ _ _ => ⟨fun _ => rfl, fun _ => rfl, fun _ => rfl, fun _ => rfl, fun _ => rfl⟩, fun a ha => Or.inl ⟨ho.lt (a := a) (by show sK σ a ≠ 0; rw [show sK σ a = 8 from ha]; omega), rfl⟩, by omega, by omega⟩
theorem cW_wj {σ : St} {x a j : Nat} {v : Int64} (hp : HP (PX x) σ) (hn : NL σ a) : cW x (s1 a) 0 0 σ (wJ σ a j v) := by
  obtain ⟨ho, hP⟩ := hp
  have hPot : Pot (PX x) (wJ σ a j v) = Pot (PX x) σ := Pot_same fun _ _ => rfl
  have e1 : sw (wJ σ a j v) = sw σ := rfl
  have e2 : sc (wJ σ a j v) = sc σ := rfl
  refine ⟨⟨⟨ho, hP⟩, ho, hP⟩, ⟨Nat.le_refl _, fun _ _ => ⟨rfl, rfl, fun _ _ => rfl⟩⟩, fun b _ q1 _ => ⟨fun _ => rfl, fun _ => rfl, fun _ => rfl, fun i => ?_, fun _ => rfl⟩, fun a ha => Or.inl ⟨ho.lt (a := a) (by show sK σ a ≠ 0; rw [show sK σ a = 8 from ha]; omega), rfl⟩, by omega, by omega⟩
  have hne : b ≠ a := fun e => by subst e; exact q1 hn rfl
  show up2 (sJ σ) a j v b i = sJ σ b i
  unfold up2
  first
    | (rw [if_neg (fun z => hne z.1)])
    | (simp [hne])
/-- frames beside: the class' picture -/
theorem KI.off {σ σ' : St} {x o k c : Nat} {s : Kst} {S : Nat → Prop} (h : KI σ x o s) (hc : cW x S k c σ σ') (hS : ∀ r, S r → mRK σ x r) : KI σ' x o s ∧ cM x S k c σ σ' := by
  have hWx := h.2.2.1.2.2
  have k9 := hWx.1.1
  have k101 := hWx.1.2.2.2.1.1
  have n9 : ¬ S (x + 9) := fun z => by have := (hS _ z).1; unfold mR at this; omega
  have na : ¬ S (sF σ (fid 1 0) (x + 9)) := fun z => by have := (hS _ z).2; omega
  have s9 := hc.sam (a := x + 9) (by omega) (Or.inl (by omega)) n9
  exact h.fr hc (fun r hr => Or.inr (Or.inr (Or.inr (hS r hr)))) ⟨hWx.1.kW hc n9 na, by rw [s9.2.1]; exact hWx.2⟩
