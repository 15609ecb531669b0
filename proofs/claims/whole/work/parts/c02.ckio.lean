/-! ===== calls of the one that was built: from what it holds to what it holds ===== -/
def KV (x K C : Nat) (s' : Kst) (val : Int) (σ σ' : St) (v : Int32) : Prop := v = iz val ∧ (∃ o, KI σ' x o s') ∧ cO x K C σ σ'
def KO (x K C : Nat) (s' : Kst) (exc : Option String) (val : Int) (σ σ' : St) (r : String ⊕ Int32) : Prop := match exc with
  | some e => r = .inl e ∧ ∃ σ1, σ' = th σ1 ∧ (∃ o, KI σ1 x o s') ∧ cO x K C σ σ1
  | none => r = .inr (iz val) ∧ (∃ o, KI σ' x o s') ∧ cO x K C σ σ'
theorem cO.rf {x : Nat} {σ : St} (h : HP (PX x) σ) : cO x 0 0 σ σ := cM.rf h
/-- the answer is another now -/
theorem KI.an {σ σ' : St} {x o k c : Nat} {s : Kst} {q : Qv} {S : Nat → Prop} (h : KI σ x o s) (hF : cM x S k c σ σ') (hQ' : SQ σ' x) (hS : ∀ r, S r → sScr σ x o r ∨ r = x) (h65 : ¬ S (x + 65)) (hI : xAn x σ σ') (hA : KAn σ' x q) : KI σ' x o (s.1, s.2.1, s.2.2.1, q, s.2.2.2.2) := by
  obtain ⟨h0, ⟨t1, t2, t3⟩, ⟨a1, a2, a3, a4⟩, ⟨p1, p2⟩, hh, w, wp, hw⟩ := h
  have ho := p1.1
  have hS9 : ∀ r, S r → sScr σ x o r ∨ r = x ∨ r = x + 1 ∨ r = x + 2 ∨ r = x + 8 ∨ r = x + 9 ∨ r = x + 17 := fun r hr => by
    rcases hS r hr with h | h
    · exact Or.inl h
    · exact Or.inr (Or.inl h)
  obtain ⟨g0, hB⟩ := h0.scr ho hF hQ' hS9
  obtain ⟨hp, hx, hk, ht, hQ⟩ := h0
  obtain ⟨k0, c0, hc⟩ := hF.w
  have ho2 : o = 11 ∨ o = 14 := ho
  have low : ∀ r, r ≤ x + 84 → (r = x + 1 ∨ r = x + 2 ∨ r = x + 17 ∨ x + 3 ≤ r ∧ r ≤ x + 10) → ¬ S r := by
    intro r hr hr2 hs
    rcases hS r hs with h | h
    · have := h.low hQ (Or.inr ho) hr
      omega
    · omega
  have nf : ∀ f, f ≠ fid 15 8 → sF σ' f x = sF σ f x := hI.2
  refine ⟨g0, ⟨t1.kW hc hx (hI.1 _) (low _ (by omega) (by omega)), (hI.1 _).trans t2, t3.kW hc hx (fun f _ => hI.1 f) (low _ (by omega) (by omega))⟩, ⟨hA, a2.kW hc hx hB hQ (low _ (by omega) (by omega)), a3.kW hc (low _ (by omega) (by omega)) (fun hs => ?_), ?_⟩, ⟨⟨ho, (nf _ (by decide)).trans p1.2.1, (nf _ (by decide)).trans p1.2.2⟩, p2.scr hx hQ ho hF hS9⟩, hh.kW2 hc hx hB hQ (hI.1 _) (hI.1 _) (low _ (by omega) (by omega)), w, wp, hw.kW hc hx h65⟩
  · have k101 := a3.2.2.2.1.1
    have hlow3 := a4
    rcases hS _ hs with h | h
    · have hle := h.ne hQ (Or.inr ho) (by omega)
      have hlo := h.low hQ (Or.inr ho) hle
      rcases hlow3 with e | e <;> omega
    · rcases hlow3 with e | e <;> omega
  · have k2 := a3.1
    rw [(hc.sam (a := x + 9) (by omega) (Or.inl (by omega)) (low _ (by omega) (by omega))).2.1]
    exact a4
/-- what only tells something -/
theorem KV.same {σ : St} {x o : Nat} {s : Kst} {val : Int} (h : KI σ x o s) : KV x 0 0 s val σ σ (iz val) := ⟨rfl, ⟨o, h⟩, cO.rf h.1.1⟩
theorem KO.same {σ : St} {x o : Nat} {s : Kst} {val : Int} (h : KI σ x o s) : KO x 0 0 s none val σ σ (.inr (iz val)) := ⟨rfl, ⟨o, h⟩, cO.rf h.1.1⟩
theorem KO.bad {σ : St} {x o : Nat} {s : Kst} {e : String} {val : Int} (h : KI σ x o s) : KO x 0 0 s (some e) val σ (th σ) (.inl e) := ⟨rfl, σ, rfl, ⟨o, h⟩, cO.rf h.1.1⟩
theorem hx_of {α : Type} {o : Option (St × α)} {σ : St} {v : α} {P : St → α → Prop} (h : o = some (σ, v)) (hP : P σ v) : Hx o P := by rw [h]; exact Hx.ret hP
theorem ki_errorPosition {σ : St} {x o : Nat} {s : Kst} (h : KI σ x o s) : Hx (fX11_errorPosition σ x) (KV x 0 0 s s.2.1 σ) := hx_of (cx_errorPosition h.1.2.1 h.2.1.2.1) (KV.same h)
theorem ki_sign {σ : St} {x o : Nat} {s : Kst} (h : KI σ x o s) : Hx (fX11_sign σ x) (KV x 0 0 s s.2.2.2.1.1 σ) := hx_of (cx_sign h.1.2.1 h.2.2.1.1) (KV.same h)
theorem ki_names {σ : St} {x o : Nat} {s : Kst} {A : As} (h : KI σ x o s) (hA : s.2.2.2.2.2.2.2.2[s.2.2.2.2.2.2.2.1]? = some A) : Hx (fX11_names σ x) (KV x 0 0 s A.1.length σ) := hx_of (by rw [← sm_iz]; exact (cx_names h.1.2.1 h.2.2.2.2.1 hA).1) (KV.same h)
theorem ki_functions {σ : St} {x o : Nat} {s : Kst} {A : As} (h : KI σ x o s) (hA : s.2.2.2.2.2.2.2.2[s.2.2.2.2.2.2.2.1]? = some A) : Hx (fX11_functions σ x) (KV x 0 0 s A.2.1.length σ) := hx_of (by rw [← sm_iz]; exact (cx_names h.1.2.1 h.2.2.2.2.1 hA).2) (KV.same h)
theorem ki_steps {σ : St} {x o : Nat} {s : Kst} (h : KI σ x o s) : Hx (fX11_steps σ x) (KV x 0 0 s s.2.2.2.2.2.2.1.length σ) := hx_of (by rw [← sm_iz]; exact cx_steps h.1.2.1 h.2.2.2.1.1 h.2.2.2.1.2) (KV.same h)
