/-! ===== the class' run: telling, and the whole ===== -/
def Dst (k : Kst) (e : Int) : Kst := ([], e, k.2.2)
theorem sW.scr {σ : St} {x o r : Nat} (ho : oS o) (h : sW σ x 0 r) : sScr σ x o r ∨ r = x ∨ r = x + 2 ∨ r = x + 17 := by
  rcases h with (h | h | h | ⟨h0, _⟩) | h
  · exact Or.inl (Or.inr (Or.inl h))
  · exact Or.inl (Or.inr (Or.inr (Or.inl h)))
  · exact Or.inl (Or.inr (Or.inr (Or.inr (Or.inl h))))
  · exact absurd rfl h0
  · exact Or.inr (Or.inl h)
theorem oS.fl {o : Nat} (h : oS o) : oS (25 - o) ∧ 25 - (25 - o) = o := by
  rcases h with rfl | rfl
  · exact ⟨Or.inr rfl, rfl⟩
  · exact ⟨Or.inl rfl, rfl⟩
/-- after a call of scratch and the class' first cell: what goes on -/
theorem KI.next {σ σ' : St} {x o k c form w wp np v : Nat} {l : List It} {s : Kst} {q : Qv} {sts : Sts} {S : Nat → Prop} {Lf : List Nat} (h : KI σ x o s) (hL : Ln σ x form w wp np l) (hS9 : StS σ x o sts) (hv : KF σ x v q) (hF : cM x S k c σ σ') (hQ' : SQ σ' x) (hS : ∀ r, S r → sScr σ x (25 - o) r ∨ r = x ∨ r = x + 2 ∨ r = x + 17) (h65 : ¬ S (x + 65)) : Ln σ' x form w wp np l ∧ StS σ' x o sts ∧ KF σ' x v q := by
  obtain ⟨h0, _, _, ⟨p1, _⟩, _⟩ := h
  obtain ⟨f1, f2⟩ := p1.1.fl
  have hS2 : ∀ r, S r → sScr σ x (25 - o) r ∨ r = x ∨ r = x + 1 ∨ r = x + 2 ∨ r = x + 8 ∨ r = x + 9 ∨ r = x + 17 := fun r hr => by
    rcases hS r hr with h | h | h | h
    · exact Or.inl h
    · exact Or.inr (Or.inl h)
    · exact Or.inr (Or.inr (Or.inr (Or.inl h)))
    · exact Or.inr (Or.inr (Or.inr (Or.inr (Or.inr (Or.inr h)))))
  obtain ⟨g0, hB⟩ := h0.scr f1 hF hQ' hS2
  obtain ⟨hp, hx, hk, ht, hQ⟩ := h0
  obtain ⟨k0, c0, hc⟩ := hF.w
  refine ⟨hL.kW hc hx hB hQ h65, ?_, hv.kB hB hQ⟩
  have := StS.scr (o := 25 - o) (by rw [f2]; exact hS9) hx hQ f1 hF hS2
  rw [f2] at this
  exact this
/-- what has been told comes in, and the answer is set -/
theorem cx_run_fin {σ : St} {x o form w wp np v b : Nat} {l : List It} {s : Kst} {A : As} {ns : List NE} {fs : List FE} {q : Qv} {sts : Sts} (h : KI σ x o s) (hA : s.2.2.2.2.2.2.2.2[s.2.2.2.2.2.2.2.1]? = some A) (hL : Ln σ x form w wp np l) (hb : KBook σ x b ns fs)
    (hv : v = 0 ∨ KF σ x v q ∧ StS σ x o sts) : Hx (nm (nw 12 0 2 σ) fun σ8 => nm (sz σ) fun a9 => Option.bind (ckK σ8 16 x) fun _ => cb (fX11_present σ8 x) fun σ10 a11 => Option.bind (gF σ10 11 1 a11) fun v13 => Option.bind (ckK σ10 12 a9) fun _ => cb (fX7_init_ σ10 a9 b v13) fun σ14 v15 => Option.bind (ckK σ14 16 x) fun _ => cb (fX11_change σ14 x a9) fun σ17 v18 => fX11_run_143 σ17 x v)
      (fun σ' r => r = .inr (nI form) ∧ cO x 2 1 σ σ' ∧ ((v = 0 ∧ KI σ' x o (s.1, s.2.1, s.2.2.1, s.2.2.2.1, s.2.2.2.2.1, s.2.2.2.2.2.1, s.2.2.2.2.2.2.1, (if s.2.2.2.2.2.2.2.1 + 1 < 21 then s.2.2.2.2.2.2.2.1 + 1 else 20), chg s.2.2.2.2.2.2.2.1 s.2.2.2.2.2.2.2.2 (ns, fs, A.2.2))) ∨
        (v ≠ 0 ∧ KI σ' x (25 - o) (s.1, s.2.1, s.2.2.1, q, s.2.2.2.2.1, s.2.2.2.2.2.1, sts, (if s.2.2.2.2.2.2.2.1 + 1 < 21 then s.2.2.2.2.2.2.2.1 + 1 else 20), chg s.2.2.2.2.2.2.2.1 s.2.2.2.2.2.2.2.2 (ns, fs, A.2.2))))) := by
  obtain ⟨hp, hx, hk, ht, hQ⟩ := id h.1
  have ho := h.2.2.2.1.1.1
  have ho2 : o = 11 ∨ o = 14 := ho
  refine cx_newState hp hx hQ h.2.2.2.2.1 hA hb (fun σ1 hF hI hH => ?_)
  have hM := hF.toM hx (fun T hT hs => by rcases hs with q | q <;> rcases hT with g | g | g <;> omega)
  have hQ1 := hQ.st hF hx (fun r hr => by rcases hr with q | q <;> omega)
  have hS0 : ∀ r, s2 x (x + 17) r → sScr σ x o r ∨ r = x ∨ r = x + 2 ∨ r = x + 17 := fun r hr => Or.inr (hr.elim (fun q => Or.inl q) (fun q => Or.inr (Or.inr q)))
  obtain ⟨g0, hB, g1, g2, g3, g4, g5, _⟩ := h.pt hM hQ1 hS0 hI
  obtain ⟨w0, wp0, hw0⟩ := h.2.2.2.2.2
  have hw1 := hw0.kW hF hx (fun q => by rcases q with q | q <;> omega)
  have k1 : KI σ1 x o (s.1, s.2.1, s.2.2.1, s.2.2.2.1, s.2.2.2.2.1, s.2.2.2.2.2.1, s.2.2.2.2.2.2.1, (if s.2.2.2.2.2.2.2.1 + 1 < 21 then s.2.2.2.2.2.2.2.1 + 1 else 20), chg s.2.2.2.2.2.2.2.1 s.2.2.2.2.2.2.2.2 (ns, fs, A.2.2)) :=
    ⟨g0, ⟨g1 (by decide), g2 (by decide), g3 (by decide) (fun q => by rcases q with q | q <;> omega)⟩, g4, g5, hH, w0, wp0, hw1⟩
  have hL1 := hL.kW hF hx hB hQ (fun q => by rcases q with q | q <;> omega)
  have hO1 : cO x 2 1 σ σ1 := hM.O (Or.inr ho) (fun r hr => by rcases hr with q | q <;> omega)
  rcases hv with rfl | ⟨hv, hS9⟩
  · rw [n_fX11_run_143, if_pos rfl, cx_run_170 g0.2.1 hL1]
    exact Hx.ret ⟨rfl, hO1, Or.inl ⟨rfl, k1⟩⟩
  · have hv1 := hv.kB hB hQ
    have hv0 : v ≠ 0 := by
      have := hv.1
      have := hx.1.1
      omega
    have hS1 := hS9.kW hx hQ hF ⟨fun q => by rcases q with q | q <;> omega, fun q => by rcases q with q | q <;> omega, fun q => by rcases q with q | q <;> omega⟩ (fun r hr => by rcases hr with q | q <;> omega)
    refine Hx.mo (cx_run_143 g0.1 g0.2.1 hQ1 hH hL1 g5.1 hS1 hv1) (fun σ2 r h2 => ?_)
    obtain ⟨rfl, hF2, hA2, hH2, ha2, hk2, hs2⟩ := h2
    have hx1 := g0.2.1
    have hM2 := hF2.toM hx1 (fun T hT hs => by have : x + T = x := hs; rcases hT with g | g | g <;> omega)
    have hQ2 := hQ1.st hF2 hx1 (fun r hr => by have : r = x := hr; omega)
    have hS2 : ∀ r, s1 x r → sScr σ1 x o r ∨ r = x ∨ r = x + 1 ∨ r = x + 2 ∨ r = x + 8 ∨ r = x + 9 ∨ r = x + 17 := fun r hr => Or.inr (Or.inl hr)
    obtain ⟨g02, hB2⟩ := g0.scr ho hM2 hQ2 hS2
    obtain ⟨_, ⟨t1, t2, t3⟩, ⟨a1, a2, a3, a4⟩, _⟩ := k1
    obtain ⟨f1, f2⟩ := ho.fl
    have k9 := a3.1
    refine ⟨rfl, (hO1.tr (hM2.O (Or.inr ho) (fun r hr => Or.inr (Or.inl hr)))).mo (by omega) (by omega), Or.inr ⟨hv0, g02, ⟨t1.kW hF2 hx1 (hA2.1 _) (fun q => by have : x + 1 = x := q; omega), (hA2.1 _).trans t2, t3.kW hF2 hx1 (fun f _ => hA2.1 f) (fun q => by have : x + 2 = x := q; omega)⟩, ⟨ha2, a2.kW hF2 hx1 hB2 hQ1 (fun q => by have : x + 8 = x := q; omega), a3.kW hF2 (fun q => by have : x + 9 = x := q; omega) (fun q => ?_), ?_⟩, ⟨hk2, by rw [f2]; exact hs2⟩, hH2, w0, wp0, hw1.kW hF2 hx1 (fun q => by have : x + 65 = x := q; omega)⟩⟩
    · have q9 : sF σ1 (fid 1 0) (x + 9) = x := q
      omega
    · rw [(hF2.sam (a := x + 9) (by omega) (Or.inl (by omega)) (fun q => by have : x + 9 = x := q; omega)).2.1]
      exact a4
/-- a name is told -/
theorem cx_run_95N {σ : St} {x o w wp v : Nat} {l : List It} {s : Kst} {A : As} {q : Qv} {sts : Sts} {ns1 : List NE} {res : Nat ⊕ List NE} (h : KI σ x o s) (hA : s.2.2.2.2.2.2.2.2[s.2.2.2.2.2.2.2.1]? = some A) (hbk : Bkc A) (hw0 : 0 < w) (hL : Ln σ x 1 w wp 0 l) (hv : KF σ x v q) (hS : StS σ x o sts) (hR : RunN A w l q ns1 res) :
    Hx (fX11_run_95 σ x v) (fun σ' r => match ocR A ns1 A.2.1 (some (q, sts)) res with
      | .inl rf => r = .inl "java/lang/ArithmeticException" ∧ ∃ σ1, σ' = th σ1 ∧ KI σ1 x o (s.1, s.2.1, rf, s.2.2.2) ∧ cO x 490 130 σ σ1
      | .inr (_, A') => r = .inr (nI 1) ∧ KI σ' x (25 - o) (s.1, s.2.1, s.2.2.1, q, s.2.2.2.2.1, s.2.2.2.2.2.1, sts, (if s.2.2.2.2.2.2.2.1 + 1 < 21 then s.2.2.2.2.2.2.2.1 + 1 else 20), chg s.2.2.2.2.2.2.2.1 s.2.2.2.2.2.2.2.2 A') ∧ cO x 492 131 σ σ') := by
  obtain ⟨hp, hx, hk, ht, hQ⟩ := id h.1
  have ho := h.2.2.2.1.1.1
  have ho2 : o = 11 ∨ o = 14 := ho
  obtain ⟨f1, f2⟩ := ho.fl
  have k0 : sK σ x = 16 := hx.kd 0 16 (by decide)
  obtain ⟨l1, l2, _⟩ := hL.f hx
  obtain ⟨⟨b1, b2, b3, b4⟩, b5, b6, b7⟩ := hbk
  obtain ⟨p, rfl, c1, c2, c3, c4, c5, j, c6, c7⟩ := hR
  rw [n_fX11_run_95, l1]
  refine hx_bs ?_
  rw [l2]
  refine hx_bs (Hx.ce (sm_eq (by omega) (by omega)) (fun c => absurd c (by omega)) (fun _ => ?_))
  rw [sm_ckK k0]
  refine hx_bs ?_
  refine Hx.bd (cx_bookWithN hp hx hQ h.2.2.2.2.1 hA hL hv b5 b6 hw0 c1 c3 c4 b2 b7 c5 c6 c7) (fun σ1 b h1 => ?_)
  obtain ⟨hM, hQ1, h1⟩ := h1
  have hS1 : ∀ o', oS o' → ∀ r, sW σ x 0 r → sScr σ x o' r ∨ r = x ∨ r = x + 2 ∨ r = x + 17 := fun o' ho' r hr => sW.scr ho' hr
  have h65 : ¬ sW σ x 0 (x + 65) := fun q => by
    rcases q with q | q
    · have := q.low hQ (Or.inl rfl) (by omega)
      omega
    · omega
  have h2 : ¬ sW σ x 0 (x + 2) := fun q => by
    rcases q with q | q
    · have := q.low hQ (Or.inl rfl) (by omega)
      omega
    · omega
  have h17 : ¬ sW σ x 0 (x + 17) := fun q => by
    rcases q with q | q
    · have := q.low hQ (Or.inl rfl) (by omega)
      omega
    · omega
  obtain ⟨n1, n2, n3⟩ := h.next (Lf := []) hL hS hv hM hQ1 (hS1 _ f1) h65
  have hO : cO x 490 130 σ σ1 := hM.O (Or.inr ho) (fun r hr => by
    rcases hS1 o ho r hr with q | q | q | q
    · exact Or.inl q
    · exact Or.inr (Or.inl q)
    · exact Or.inr (Or.inr (Or.inr (Or.inl q)))
    · exact Or.inr (Or.inr (Or.inr (Or.inr (Or.inr (Or.inr (Or.inr q)))))))
  obtain ⟨w0, wp0, hw0'⟩ := h.2.2.2.2.2
  obtain ⟨kk, cc, hc⟩ := hM.w
  have hw1 := hw0'.kW hc hx h65
  cases res with
  | inl fw =>
    obtain ⟨rfl, hI, hr⟩ := h1
    obtain ⟨g0, hB, g1, g2, g3, g4, g5, g6⟩ := h.pt hM hQ1 (hS1 o ho) hI
    rw [if_pos rfl]
    exact Hx.ret ⟨rfl, σ1, rfl, ⟨g0, ⟨g1 (by decide), g2 (by decide), hr⟩, g4, g5, g6 (by decide) (by decide) h17, w0, wp0, hw1⟩, hO⟩
  | inr ns' =>
    obtain ⟨hb0, hI, hb⟩ := h1
    obtain ⟨g0, hB, g1, g2, g3, g4, g5, g6⟩ := h.pt hM hQ1 (hS1 o ho) hI
    rw [if_neg hb0]
    have k1 : KI σ1 x o s := ⟨g0, ⟨g1 (fun q => by cases q), g2 (fun q => by cases q), g3 (fun f _ q => by cases q) h2⟩, g4, g5, g6 (fun q => by cases q) (fun q => by cases q) h17, w0, wp0, hw1⟩
    refine Hx.mo (cx_run_fin (q := q) (sts := sts) k1 hA n1 hb (Or.inr ⟨n3, n2⟩)) (fun σ2 r h2 => ?_)
    obtain ⟨rfl, hO2, h2⟩ := h2
    rcases h2 with ⟨q1, _⟩ | ⟨_, q2⟩
    · exfalso
      have := hv.1
      have := hx.1.1
      omega
    · exact ⟨rfl, q2, hO.tr hO2⟩
/-- a function is told -/
theorem cx_run_95F {σ : St} {x o w wp np : Nat} {l : List It} {s : Kst} {A : As} {fs1 : List FE} {res : Nat ⊕ List NE} (h : KI σ x o s) (hA : s.2.2.2.2.2.2.2.2[s.2.2.2.2.2.2.2.1]? = some A) (hbk : Bkc A) (hw0 : 0 < w) (hL : Ln σ x 2 w wp np l) (hR : RunF A w np l fs1 res) :
    Hx (fX11_run_95 σ x 0) (fun σ' r => match ocR A A.1 fs1 none res with
      | .inl rf => r = .inl "java/lang/ArithmeticException" ∧ ∃ σ1, σ' = th σ1 ∧ KI σ1 x o (s.1, s.2.1, rf, s.2.2.2) ∧ cO x 490 130 σ σ1
      | .inr (_, A') => r = .inr (nI 2) ∧ KI σ' x o (s.1, s.2.1, s.2.2.1, s.2.2.2.1, s.2.2.2.2.1, s.2.2.2.2.2.1, s.2.2.2.2.2.2.1, (if s.2.2.2.2.2.2.2.1 + 1 < 21 then s.2.2.2.2.2.2.2.1 + 1 else 20), chg s.2.2.2.2.2.2.2.1 s.2.2.2.2.2.2.2.2 A') ∧ cO x 492 131 σ σ') := by
  obtain ⟨hp, hx, hk, ht, hQ⟩ := id h.1
  have ho := h.2.2.2.1.1.1
  have ho2 : o = 11 ∨ o = 14 := ho
  have k0 : sK σ x = 16 := hx.kd 0 16 (by decide)
  obtain ⟨l1, l2, _⟩ := hL.f hx
  obtain ⟨⟨b1, b2, b3, b4⟩, b5, b6, b7⟩ := hbk
  obtain ⟨hnp, p, rfl, c1, c3, c4, c2, c5, c8, j, c6, c7⟩ := hR
  rw [n_fX11_run_95, l1]
  refine hx_bs ?_
  rw [l2]
  refine hx_bs (Hx.ce (sm_eq (by omega) (by omega)) (fun c => absurd c (by omega)) (fun _ => ?_))
  rw [sm_ckK k0]
  refine hx_bs ?_
  refine Hx.bd (cx_bookWithF hp hx hQ h.2.2.2.2.1 hA hL hnp b5 b6 hw0 c1 c3 c4 c2 c5 c8 c6 c7) (fun σ1 b h1 => ?_)
  obtain ⟨hM, hQ1, h1⟩ := h1
  have hS1 : ∀ o', oS o' → ∀ r, sW σ x 0 r → sScr σ x o' r ∨ r = x ∨ r = x + 2 ∨ r = x + 17 := fun o' ho' r hr => sW.scr ho' hr
  have h65 : ¬ sW σ x 0 (x + 65) := fun q => by
    rcases q with q | q
    · have := q.low hQ (Or.inl rfl) (by omega)
      omega
    · omega
  have h2 : ¬ sW σ x 0 (x + 2) := fun q => by
    rcases q with q | q
    · have := q.low hQ (Or.inl rfl) (by omega)
      omega
    · omega
  have h17 : ¬ sW σ x 0 (x + 17) := fun q => by
    rcases q with q | q
    · have := q.low hQ (Or.inl rfl) (by omega)
      omega
    · omega
  have hO : cO x 490 130 σ σ1 := hM.O (Or.inr ho) (fun r hr => by
    rcases hS1 o ho r hr with q | q | q | q
    · exact Or.inl q
    · exact Or.inr (Or.inl q)
    · exact Or.inr (Or.inr (Or.inr (Or.inl q)))
    · exact Or.inr (Or.inr (Or.inr (Or.inr (Or.inr (Or.inr (Or.inr q)))))))
  obtain ⟨w0, wp0, hw0'⟩ := h.2.2.2.2.2
  obtain ⟨kk, cc, hc⟩ := hM.w
  have hw1 := hw0'.kW hc hx h65
  cases res with
  | inl fw =>
    obtain ⟨rfl, hI, hr⟩ := h1
    obtain ⟨g0, hB, g1, g2, g3, g4, g5, g6⟩ := h.pt hM hQ1 (hS1 o ho) hI
    rw [if_pos rfl]
    exact Hx.ret ⟨rfl, σ1, rfl, ⟨g0, ⟨g1 (by decide), g2 (by decide), hr⟩, g4, g5, g6 (by decide) (by decide) h17, w0, wp0, hw1⟩, hO⟩
  | inr ns' =>
    obtain ⟨hb0, hI, hb⟩ := h1
    obtain ⟨g0, hB, g1, g2, g3, g4, g5, g6⟩ := h.pt hM hQ1 (hS1 o ho) hI
    rw [if_neg hb0]
    have k1 : KI σ1 x o s := ⟨g0, ⟨g1 (fun q => by cases q), g2 (fun q => by cases q), g3 (fun f _ q => by cases q) h2⟩, g4, g5, g6 (fun q => by cases q) (fun q => by cases q) h17, w0, wp0, hw1⟩
    have hL1 := hL.kW hc hx hB hQ h65
    refine Hx.mo (cx_run_fin (q := (0, 0, 1)) (sts := []) (v := 0) k1 hA hL1 hb (Or.inl rfl)) (fun σ2 r h2 => ?_)
    obtain ⟨rfl, hO2, h2⟩ := h2
    rcases h2 with ⟨_, q2⟩ | ⟨q1, _⟩
    · exact ⟨rfl, q2, hO.tr hO2⟩
    · exact absurd rfl q1
