/-! ===== calls of the one that was built: simple ones ===== -/
theorem ix_in {z : Int} {n : Nat} (hz : -2147483648 ≤ z ∧ z < 2147483648) (hn : n < 2147483648) : (∃ i : Nat, i < n ∧ iz z = nI i) ↔ 0 ≤ z ∧ z < n := by
  constructor
  · rintro ⟨i, h1, h2⟩
    rw [sm_iz, iz_eq hz.1 hz.2 (by omega) (by omega)] at h2
    omega
  · rintro ⟨h1, h2⟩
    obtain ⟨i, rfl⟩ := Int.eq_ofNat_of_zero_le h1
    exact ⟨i, by omega, (sm_iz i).symm⟩
theorem ix_eq {z : Int} {i : Nat} (hz : -2147483648 ≤ z ∧ z < 2147483648) (hi : i < 2147483648) (h : iz z = nI i) : z = (i : Int) := by
  rw [sm_iz, iz_eq hz.1 hz.2 (by omega) (by omega)] at h
  exact h
/-- the history is another now -/
theorem KI.hs {σ σ' : St} {x o k c now' : Nat} {s : Kst} {H' : List As} {S : Nat → Prop} {Lf : List Nat} (h : KI σ x o s) (hF : cM x S k c σ σ') (hQ' : SQ σ' x) (hS : ∀ r, S r → sScr σ x o r ∨ r = x ∨ r = x + 17) (h65 : ¬ S (x + 65)) (hI : xI Lf x σ σ') (hL : ∀ f ∈ Lf, f = fid 15 14 ∨ f = fid 15 15) (hH : KHis σ' x now' H') : KI σ' x o (s.1, s.2.1, s.2.2.1, s.2.2.2.1, s.2.2.2.2.1, s.2.2.2.2.2.1, s.2.2.2.2.2.2.1, now', H') := by
  have hx := h.1.2.1
  have hQ := h.1.2.2.2.2
  have ho := h.2.2.2.1.1.1
  obtain ⟨g0, hB, g1, g2, g3, g4, g5, g6⟩ := h.pt hF hQ' (fun r hr => by
    rcases hS r hr with q | q | q
    · exact Or.inl q
    · exact Or.inr (Or.inl q)
    · exact Or.inr (Or.inr (Or.inr q))) hI
  have nl : ∀ f, f ≠ fid 15 14 → f ≠ fid 15 15 → f ∉ Lf := fun f a b q => by
    rcases hL f q with z | z
    · exact a z
    · exact b z
  have n2 : ¬ S (x + 2) := fun q => by
    rcases hS _ q with z | z
    · have := z.low hQ (Or.inr ho) (by omega)
      have ho2 : o = 11 ∨ o = 14 := ho
      omega
    · omega
  obtain ⟨w, wp, hw⟩ := h.2.2.2.2.2
  obtain ⟨k0, c0, hc⟩ := hF.w
  exact ⟨g0, ⟨g1 (nl _ (by decide) (by decide)), g2 (nl _ (by decide) (by decide)), g3 (fun f hf => nl f (by revert f; decide) (by revert f; decide)) n2⟩, g4, g5, hH, w, wp, hw.kW hc hx h65⟩
def hist (s : Kst) (now : Nat) (H : List As) : Kst := (s.1, s.2.1, s.2.2.1, s.2.2.2.1, s.2.2.2.2.1, s.2.2.2.2.2.1, s.2.2.2.2.2.2.1, now, H)
def ansK (s : Kst) (q : Qv) : Kst := (s.1, s.2.1, s.2.2.1, q, s.2.2.2.2)
theorem ki_undo {σ : St} {x o : Nat} {s : Kst} (h : KI σ x o s) : Hx (fX11_undo σ x) (KV x 0 0 (hist s (s.2.2.2.2.2.2.2.1 - 1) s.2.2.2.2.2.2.2.2) (if 1 ≤ s.2.2.2.2.2.2.2.1 then ((s.2.2.2.2.2.2.2.1 - 1 : Nat) : Int) else -1) σ) := by
  obtain ⟨hp, hx, _, _, hQ⟩ := id h.1
  have ho := h.2.2.2.1.1.1
  refine (cx_undo hp hx hQ h.2.2.2.2.1).mo (fun σ' v g => ?_)
  obtain ⟨g1, g2, g3, rfl⟩ := g
  have hM := g1.toM hx (fun T hT hs => by have : x + T = x := hs; rcases hT with g | g | g <;> omega)
  have hQ' := hQ.st g1 hx (fun r hr => by have : r = x := hr; omega)
  refine ⟨?_, ⟨o, h.hs hM hQ' (fun r hr => Or.inr (Or.inl hr)) (fun q => by have : x + 65 = x := q; omega) g2 (fun f hf => by simp only [List.mem_singleton] at hf; exact Or.inl hf) g3⟩, hM.O (Or.inr ho) (fun r hr => Or.inr (Or.inl hr))⟩
  split
  · exact sm_iz _
  · rfl
