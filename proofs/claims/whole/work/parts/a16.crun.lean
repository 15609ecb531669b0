/-! ===== the class' run ===== -/
theorem KI.pt {σ σ' : St} {x o k c : Nat} {s : Kst} {S : Nat → Prop} {Lf : List Nat} (h : KI σ x o s) (hF : cM x S k c σ σ') (hQ' : SQ σ' x) (hS : ∀ r, S r → sScr σ x o r ∨ r = x ∨ r = x + 2 ∨ r = x + 17) (hI : xI Lf x σ σ') :
    KI0 σ' x ∧ cB x σ σ' ∧ (fid 15 1 ∉ Lf → KTp σ' x s.1) ∧ (fid 15 2 ∉ Lf → sI σ' (fid 15 2) x = iz s.2.1) ∧ ((∀ f ∈ rfL, f ∉ Lf) → ¬ S (x + 2) → KRef σ' x s.2.2.1.1 s.2.2.1.2.1 s.2.2.1.2.2.1 s.2.2.1.2.2.2) ∧
    (KAn σ' x s.2.2.2.1 ∧ KSl σ' x s.2.2.2.2.1 ∧ KWx σ' x s.2.2.2.2.2.1) ∧ (KSp σ' x o ∧ StS σ' x (25 - o) s.2.2.2.2.2.2.1) ∧ (fid 15 14 ∉ Lf → fid 15 15 ∉ Lf → ¬ S (x + 17) → KHis σ' x s.2.2.2.2.2.2.2.1 s.2.2.2.2.2.2.2.2) := by
  obtain ⟨h0, ⟨t1, t2, t3⟩, ⟨a1, a2, a3, a4⟩, ⟨p1, p2⟩, hh, _⟩ := h
  have ho := p1.1
  have hS9 : ∀ r, S r → sScr σ x o r ∨ r = x ∨ r = x + 1 ∨ r = x + 2 ∨ r = x + 8 ∨ r = x + 9 ∨ r = x + 17 := fun r hr => by
    rcases hS r hr with h | h | h | h
    · exact Or.inl h
    · exact Or.inr (Or.inl h)
    · exact Or.inr (Or.inr (Or.inr (Or.inl h)))
    · exact Or.inr (Or.inr (Or.inr (Or.inr (Or.inr (Or.inr h)))))
  obtain ⟨g0, hB⟩ := h0.scr ho hF hQ' hS9
  obtain ⟨hp, hx, hk, ht, hQ⟩ := h0
  obtain ⟨k0, c0, hc⟩ := hF.w
  have ho2 : o = 11 ∨ o = 14 := ho
  have low : ∀ r, r ≤ x + 84 → (r = x + 1 ∨ x + 3 ≤ r ∧ r ≤ x + 10) → ¬ S r := by
    intro r hr hr2 hs
    rcases hS r hs with h | h
    · have := h.low hQ (Or.inr ho) hr
      omega
    · omega
  refine ⟨g0, hB, fun q => t1.kW hc hx (hI.1 _ q) (low _ (by omega) (by omega)), fun q => (hI.1 _ q).trans t2, fun q q2 => t3.kW hc hx (fun f hf => hI.1 f (q f hf)) q2, ⟨?_, a2.kW hc hx hB hQ (low _ (by omega) (by omega)), a3.kW hc (low _ (by omega) (by omega)) (fun hs => ?_), ?_⟩, ⟨⟨ho, (hI.2 _).trans p1.2.1, (hI.2 _).trans p1.2.2⟩, p2.scr hx hQ ho hF hS9⟩, fun q1 q2 q3 => hh.kW2 hc hx hB hQ (hI.1 _ q1) (hI.1 _ q2) q3⟩
  · unfold KAn
    rw [hI.2]
    exact KF.kB a1 hB hQ
  · have k101 := a3.2.2.2.1.1
    have hlow3 := a4
    rcases hS _ hs with h | h
    · have hle := h.ne hQ (Or.inr ho) (by omega)
      have hlo := h.low hQ (Or.inr ho) hle
      rcases hlow3 with e | e <;> omega
    · rcases hlow3 with e | e <;> omega
  · have k2 := a3.1
    rw [(hc.sam (a := x + 9) (by omega) (Or.inl (by omega)) (low _ (by omega) (by omega))).2.1]
    exact a4
/-- the tape is empty, and the error position told -/
theorem KI.err {σ : St} {x o : Nat} {s : Kst} {e : Int} (h : KI σ x o s) : pI σ 15 2 x (iz e) = some (wI σ (fid 15 2) x (iz e)) ∧ pI (wI σ (fid 15 2) x (iz e)) 15 1 x (nI 0) = some (wI (wI σ (fid 15 2) x (iz e)) (fid 15 1) x (nI 0)) ∧ KI (wI (wI σ (fid 15 2) x (iz e)) (fid 15 1) x (nI 0)) x o ([], e, s.2.2) ∧ cM x (s1 x) 0 0 σ (wI (wI σ (fid 15 2) x (iz e)) (fid 15 1) x (nI 0)) ∧ xI [fid 15 1, fid 15 2] x σ (wI (wI σ (fid 15 2) x (iz e)) (fid 15 1) x (nI 0)) ∧ gI (wI (wI σ (fid 15 2) x (iz e)) (fid 15 1) x (nI 0)) 15 2 x = some (iz e) := by
  have hx := h.1.2.1
  have k0 : sK σ x = 15 + 1 := hx.kd 0 16 (by decide)
  have hF1 := cWi (f := fid 15 2) (v := iz e) h.1.1 (show sK σ x ≠ 8 by omega) (by omega)
  have hF2 := hF1.tr0 (cWi (f := fid 15 1) (v := nI 0) hF1.hp (show sK σ x ≠ 8 by omega) (show sK σ x ≠ 100 by omega)) (fun r _ hr => hr)
  have hM := hF2.toM hx (fun T hT hs => by have : x + T = x := hs; rcases hT with g | g | g <;> omega)
  have hQ := h.1.2.2.2.2.st hF2 hx (fun r hr => by have : r = x := hr; omega)
  have hI : xI [fid 15 1, fid 15 2] x σ (wI (wI σ (fid 15 2) x (iz e)) (fid 15 1) x (nI 0)) := ⟨fun f hf => by
    simp only [List.mem_cons, List.not_mem_nil, or_false, not_or] at hf
    exact (sI_wI_f hf.1).trans (sI_wI_f hf.2), fun f => rfl⟩
  have e2 : sI (wI (wI σ (fid 15 2) x (iz e)) (fid 15 1) x (nI 0)) (fid 15 2) x = iz e := by rw [sI_wI_f (by decide), sI_wI_eq]
  obtain ⟨g0, hB, _, _, g3, g4, g5, g6⟩ := h.pt hM hQ (fun r hr => Or.inr (Or.inl hr)) hI
  obtain ⟨w, wp, hw⟩ := h.2.2.2.2.2
  refine ⟨sm_pI k0, sm_pI (show sK (wI σ (fid 15 2) x (iz e)) x = 15 + 1 from k0), ⟨g0, ⟨⟨sI_wI_eq, Nat.zero_le _, fun i b hb => (by cases hb), fun b hb => (by cases hb)⟩, e2, g3 (by decide) (fun q => by have : x + 2 = x := q; omega)⟩, g4, g5, g6 (by decide) (by decide) (fun q => by have : x + 17 = x := q; omega), w, wp, hw.kW hF2 hx (fun q => by have : x + 65 = x := q; omega)⟩, hM, hI, ?_⟩
  exact (sm_gI (σ := wI (wI σ (fid 15 2) x (iz e)) (fid 15 1) x (nI 0)) k0).trans (congrArg some e2)
/-- what the class needs to know of a name told, and how it ends -/
def RunN (A : As) (w : Nat) (l : List It) (q : Qv) (ns1 : List NE) (res : Nat ⊕ List NE) : Prop := ∃ p, ns1 = plL A.1 p (isN (·.1) A.1 p w) (w, l, q) ∧ Plc (A.1.map (·.1)) w p ∧ ns1.length ≤ 20 ∧ A.1.length + isN (·.1) A.1 p w ≤ 20 ∧ Nod ns1 A.2.1 ∧ (∀ e ∈ ns1, (∀ it ∈ e.2.1, OkI A.2.1 it) ∧ hts e.2.1 0 = some 1) ∧ ∃ j, ndO ns1 A.2.1 1 w = some j ∧ rnw (Ths ns1 A.2.1) A.2.1 20 ns1 (usrL ns1 A.2.1 j) = some res
def RunF (A : As) (w np : Nat) (l : List It) (fs1 : List FE) (res : Nat ⊕ List NE) : Prop := 0 < np ∧ ∃ p, fs1 = plL A.2.1 p (isN (·.1) A.2.1 p w) (w, np, l) ∧ Plc (A.2.1.map (·.1)) w p ∧ A.2.1.length + isN (·.1) A.2.1 p w ≤ 10 ∧ Nod A.1 fs1 ∧ (∀ e ∈ fs1, known e.1 = 0) ∧ (∀ e ∈ fs1, ∀ it ∈ e.2.2, OkI fs1 it) ∧ (∀ e ∈ A.1, (∀ it ∈ e.2.1, OkI fs1 it) ∧ hts e.2.1 0 = some 1) ∧ ∃ j, ndO A.1 fs1 2 w = some j ∧ rnw (Ths A.1 fs1) fs1 20 A.1 (usrL A.1 fs1 j) = some res
/-- how a line that was read ends: refused, or what it gives with its steps, and the present state -/
abbrev Ocm := Rfs ⊕ (Option (Qv × Sts) × As)
def ocR (A : As) (ns1 : List NE) (fs1 : List FE) (v : Option (Qv × Sts)) (res : Nat ⊕ List NE) : Ocm := match res with
  | .inl fw => .inl (9, 0, fw, [])
  | .inr ns' => .inr (v, (ns', fs1, A.2.2))
def RunR (A : As) (form w wp np : Nat) (l : List It) (oc : Ocm) : Prop := match rfs A.1 A.2.1 (Ths A.1 A.2.1) form w wp np l with
  | some r => oc = .inl (r.1, r.2.1, -1, r.2.2)
  | none => (form = 2 ∧ ∃ fs1 res, RunF A w np l fs1 res ∧ oc = ocR A A.1 fs1 none res) ∨
    (form ≠ 2 ∧ (∀ it ∈ l, OkI A.2.1 it) ∧ hts l 0 = some 1 ∧ ∃ r, wrk (nvl A.1) (fbd A.2.1) 1000000 [] l [] 0 [] = some r ∧
      ((r.1 ≠ 0 ∧ oc = .inl (r.1, r.2.1, -1, [])) ∨ (r.1 = 0 ∧ form = 0 ∧ oc = .inr (some (r.2.2.1, r.2.2.2), A)) ∨ (r.1 = 0 ∧ form = 1 ∧ ∃ ns1 res, RunN A w l r.2.2.1 ns1 res ∧ oc = ocR A ns1 A.2.1 (some (r.2.2.1, r.2.2.2)) res)))
/-- what the class needs of a book -/
def Bkc (A : As) : Prop := (Nod A.1 A.2.1 ∧ (∀ e ∈ A.2.1, known e.1 = 0) ∧ (Ths A.1 A.2.1).Pairwise thlt ∧ Acy (Ths A.1 A.2.1)) ∧ (∀ e ∈ A.1, 0 < e.1 ∧ e.1 < 387420489) ∧ (∀ e ∈ A.2.1, 0 < e.1 ∧ e.1 < 387420489) ∧ ∀ e ∈ A.2.1, ∀ it ∈ e.2.2, OkI A.2.1 it
def Rng (A : As) (form w : Nat) (l : List It) : Prop := ∀ e, thO A.1 A.2.1 form w = some e → Rch (Ths A.1 A.2.1) l e → ∃ rg, rngO (Ths A.1 A.2.1) 30 l e = some rg
abbrev KstR := List Qv × List Nat
/-- a frame that is told outside -/
def cO (x k c : Nat) (σ σ' : St) : Prop := cM x (muO σ x) k c σ σ'
theorem cO.tr {x k c k' c' : Nat} {σ σ1 σ2 : St} (h1 : cO x k c σ σ1) (h2 : cO x k' c' σ1 σ2) : cO x (k + k') (c + c') σ σ2 := cM.tr h1 h2 (fun r hr hs => muO.up h1.2 hr (h1.w.elim fun _ hw => hw.elim fun _ hw => (hw.2.1.2 r hr).1) hs)
theorem cO.mo {x k c k' c' : Nat} {σ σ1 : St} (h1 : cO x k c σ σ1) (hk : k ≤ k') (hc : c ≤ c') : cO x k' c' σ σ1 := cM.mo h1 (fun _ _ h => h) hk hc
theorem cM.O {x o k c : Nat} {S : Nat → Prop} {σ σ1 : St} (h1 : cM x S k c σ σ1) (ho : oO o) (hS : ∀ r, S r → sScr σ x o r ∨ r = x ∨ r = x + 1 ∨ r = x + 2 ∨ r = x + 8 ∨ r = x + 9 ∨ r = x + 10 ∨ r = x + 17) : cO x k c σ σ1 := h1.mo (fun r _ hs => by
  rcases hS r hs with h | h
  · exact h.mo ho
  · exact Or.inl ⟨by omega, by omega, by omega⟩) (Nat.le_refl _) (Nat.le_refl _)
