/-! ===== calls of the one that was built: slots, rows of values, states ===== -/
theorem ki_redo {σ : St} {x o : Nat} {s : Kst} (h : KI σ x o s) : Hx (fX11_redo σ x) (KV x 0 0 (hist s (if s.2.2.2.2.2.2.2.1 < s.2.2.2.2.2.2.2.2.length - 1 then s.2.2.2.2.2.2.2.1 + 1 else s.2.2.2.2.2.2.2.1) s.2.2.2.2.2.2.2.2) (if s.2.2.2.2.2.2.2.1 < s.2.2.2.2.2.2.2.2.length - 1 then ((s.2.2.2.2.2.2.2.2.length - 1 - (s.2.2.2.2.2.2.2.1 + 1) : Nat) : Int) else -1) σ) := by
  obtain ⟨hp, hx, _, _, hQ⟩ := id h.1
  refine (cx_redo hp hx hQ h.2.2.2.2.1).mo (fun σ' v g => ?_)
  obtain ⟨g1, g2, g3, rfl⟩ := g
  obtain ⟨hM, hQ', hO⟩ := fr_s1 h g1
  refine ⟨?_, ⟨o, h.hs hM hQ' (fun r hr => Or.inr (Or.inl hr)) (fun q => by have : x + 65 = x := q; omega) g2 (fun f hf => by simp only [List.mem_singleton] at hf; exact Or.inl hf) g3⟩, hO⟩
  split
  · exact sm_iz _
  · rfl
theorem ki_takeStep {σ : St} {x o : Nat} {s : Kst} {z : Int} (hz : -2147483648 ≤ z ∧ z < 2147483648) (hl : s.2.2.2.2.2.2.1.length ≤ 200) (h : KI σ x o s) : Hx (fX11_takeStep σ x (iz z)) (KO x 15 5 (if 0 ≤ z ∧ z < s.2.2.2.2.2.2.1.length then ansK s (atS s.2.2.2.2.2.2.1 z) else s) (if 0 ≤ z ∧ z < s.2.2.2.2.2.2.1.length then none else some "java/lang/IndexOutOfBoundsException") (atS s.2.2.2.2.2.2.1 z).1 σ) := by
  obtain ⟨hp, hx, _, _, hQ⟩ := id h.1
  refine (cx_takeStep hp hx hQ h.2.2.2.2.1 h.2.2.2.1.1 h.2.2.2.1.2 hl).mo (fun σ' w g => ?_)
  rcases g with ⟨i, y, g1, g2, g3, g4, g5, g6, rfl⟩ | ⟨g1, rfl, rfl⟩
  · have hi := (List.getElem?_eq_some_iff.mp g2).1
    have hzi := ix_eq hz (by omega) g1
    subst hzi
    rw [if_pos (by omega), if_pos (by omega), atS_of g2]
    obtain ⟨hM, hQ', hO⟩ := fr_s1 h g3
    exact ⟨rfl, ⟨o, h.an hM hQ' (fun r hr => Or.inr hr) (fun q => by have : x + 65 = x := q; omega) g4 g6⟩, hO⟩
  · have hn : ¬ (0 ≤ z ∧ z < (s.2.2.2.2.2.2.1.length : Int)) := fun q => g1 ((ix_in hz (by omega)).mpr q)
    rw [if_neg hn, if_neg hn]
    obtain ⟨q1, ⟨σ1, q2, q3⟩⟩ := KO.bad (e := "java/lang/IndexOutOfBoundsException") (val := 0) h
    exact ⟨q1, σ1, q2, q3.1, q3.2.mo (by omega) (by omega)⟩
theorem ki_clearTape {σ : St} {x o : Nat} {s : Kst} (h : KI σ x o s) : Hx (fX11_clearTape σ x) (KV x 0 0 ([], s.2) s.1.length σ) := by
  obtain ⟨hp, hx, _, _, hQ⟩ := id h.1
  refine (cx_clearTape hp hx h.2.1.1.1).mo (fun σ' v g => ?_)
  obtain ⟨rfl, g1, g2, g3⟩ := g
  obtain ⟨hM, hQ', hO⟩ := fr_s1 h g1
  obtain ⟨e0, eB, e1, e2, e3, e4, e5, e6⟩ := h.pt hM hQ' (fun r hr => Or.inr (Or.inl hr)) g2
  obtain ⟨w, wp, hw⟩ := h.2.2.2.2.2
  exact ⟨sm_iz _, ⟨o, e0, ⟨⟨g3, Nat.zero_le _, fun i b hb => (by cases hb), fun b hb => (by cases hb)⟩, e2 (by decide), e3 (by decide) (fun q => by have : x + 2 = x := q; omega)⟩, e4, e5, e6 (by decide) (by decide) (fun q => by have : x + 17 = x := q; omega), w, wp, hw.kW g1 hx (fun q => by have : x + 65 = x := q; omega)⟩, hO⟩
theorem ki_keep {σ : St} {x o : Nat} {s : Kst} {z : Int} (hz : -2147483648 ≤ z ∧ z < 2147483648) (h : KI σ x o s) : Hx (fX11_keep σ x (iz z)) (KO x 0 0 (if 0 ≤ z ∧ z ≤ 9 then (s.1, s.2.1, s.2.2.1, s.2.2.2.1, s.2.2.2.2.1.set z.toNat s.2.2.2.1, s.2.2.2.2.2) else s) (if 0 ≤ z ∧ z ≤ 9 then none else some "java/lang/IllegalArgumentException") (atQ s.2.2.2.2.1 z).1 σ) := by
  obtain ⟨hp, hx, _, _, hQ⟩ := id h.1
  have hsl := h.2.2.1.2.1
  have ho := h.2.2.2.1.1.1
  by_cases c : 0 ≤ z ∧ z ≤ 9
  · obtain ⟨i, rfl⟩ := Int.eq_ofNat_of_zero_le c.1
    have hi : i < s.2.2.2.2.1.length := by rw [hsl.1]; omega
    rw [if_pos c, if_pos c, atQ_of (List.getElem?_eq_getElem hi), ← sm_iz, Int.toNat_natCast]
    refine (cx_keep hp hx hQ h.2.2.2.2.1 hsl (List.getElem?_eq_getElem hi) h.2.2.1.1).mo (fun σ' w g => ?_)
    obtain ⟨g1, g2, g3, g4, rfl⟩ := g
    have hM := g1.toM hx (fun T hT hs => by have : x + T = x + 8 := hs; rcases hT with g | g | g <;> omega)
    have hQ' := hQ.st g1 hx (fun r hr => by have : r = x + 8 := hr; omega)
    obtain ⟨h0, ⟨t1, t2, t3⟩, ⟨a1, a2, a3, a4⟩, ⟨p1, p2⟩, hh, w, wp, hw⟩ := h
    have hS9 : ∀ r, s1 (x + 8) r → sScr σ x o r ∨ r = x ∨ r = x + 1 ∨ r = x + 2 ∨ r = x + 8 ∨ r = x + 9 ∨ r = x + 17 := fun r hr => Or.inr (Or.inr (Or.inr (Or.inr (Or.inl hr))))
    obtain ⟨e0, hB⟩ := h0.scr ho hM hQ' hS9
    have ne : ∀ r, r ≠ x + 8 → ¬ s1 (x + 8) r := fun r hr q => hr q
    refine ⟨rfl, ⟨o, e0, ⟨t1.kW g1 hx (g2.1 _ (by simp)) (ne _ (by omega)), (g2.1 _ (by simp)).trans t2, t3.kW g1 hx (fun f _ => g2.1 f (by simp)) (ne _ (by omega))⟩, ⟨?_, g4, a3.kW g1 (ne _ (by omega)) (fun q => ?_), ?_⟩, ⟨⟨ho, (g2.2 _).trans p1.2.1, (g2.2 _).trans p1.2.2⟩, p2.scr hx hQ ho hM hS9⟩, g3, w, wp, hw.kW g1 hx (ne _ (by omega))⟩, hM.O (Or.inr ho) (fun r hr => Or.inr (Or.inr (Or.inr (Or.inr (Or.inl hr)))))⟩
    · unfold KAn
      rw [g2.2]
      exact KF.kB a1 hB hQ
    · have q : sF σ (fid 1 0) (x + 9) = x + 8 := q
      rcases a4 with e | e <;> omega
    · have k2 := a3.1
      rw [(g1.sam (a := x + 9) (by omega) (Or.inl (by omega)) (ne _ (by omega))).2.1]
      exact a4
  · rw [if_neg c, if_neg c]
    have hn : ¬ ∃ r : Nat, r < 10 ∧ iz z = nI r := fun q => c (by have := (ix_in hz (by omega)).mp q; omega)
    refine hx_of ?_ (KO.bad h)
    apply hx_eq
    rw [n_fX11_keep, sm_ckK (show sK σ x = 16 from hx.kd 0 16 (by decide))]
    refine hx_bs ?_
    rw [cx_isSlot hx]
    refine hx_cs ?_
    refine Hx.ce b01_0 (fun _ => Hx.ret ⟨rfl, rfl⟩) (fun q => absurd hn q)
theorem sScr_m {σ : St} {x o r : Nat} (h : x + 19 ≤ r ∧ r ≤ x + 48) : sScr σ x o r := Or.inr (Or.inl h)
theorem ki_compare {σ : St} {x o : Nat} {s : Kst} {z y : Int} (hz : -2147483648 ≤ z ∧ z < 2147483648) (hy : -2147483648 ≤ y ∧ y < 2147483648) (h : KI σ x o s) : Hx (fX11_compare σ x (iz z) (iz y)) (KO x 0 0 s (if (0 ≤ z ∧ z ≤ 9) ∧ 0 ≤ y ∧ y ≤ 9 then none else some "java/lang/IllegalArgumentException") (cmpq (atQ s.2.2.2.2.1 z) (atQ s.2.2.2.2.1 y)) σ) := by
  obtain ⟨hp, hx, _, _, hQ⟩ := id h.1
  have hsl := h.2.2.1.2.1
  have ho := h.2.2.2.1.1.1
  by_cases c : (0 ≤ z ∧ z ≤ 9) ∧ 0 ≤ y ∧ y ≤ 9
  · obtain ⟨i, rfl⟩ := Int.eq_ofNat_of_zero_le c.1.1
    obtain ⟨j, rfl⟩ := Int.eq_ofNat_of_zero_le c.2.1
    have hi : i < s.2.2.2.2.1.length := by rw [hsl.1]; omega
    have hj : j < s.2.2.2.2.1.length := by rw [hsl.1]; omega
    rw [if_pos c, atQ_of (List.getElem?_eq_getElem hi), atQ_of (List.getElem?_eq_getElem hj), ← sm_iz, ← sm_iz]
    refine (cx_compare hp hx hsl (List.getElem?_eq_getElem hi) (List.getElem?_eq_getElem hj)).mo (fun σ' w g => ?_)
    obtain ⟨g1, rfl⟩ := g
    have hS : ∀ r, s2 (x + 37) (x + 39) r → r = x + 37 ∨ r = x + 39 := fun r hr => hr
    have hM := g1.toM hx (fun T hT hs => by have := hS _ hs; rcases hT with g | g | g <;> omega)
    have hQ' := hQ.st g1 hx (fun r hr => by have := hS _ hr; omega)
    obtain ⟨w, wp, hw⟩ := h.2.2.2.2.2
    exact ⟨rfl, ⟨o, h.scr hM hQ' (fun r hr => by have := hS _ hr; exact sScr_m (by omega)) ⟨w, wp, hw.kW g1 hx (fun q => by have := hS _ q; omega)⟩⟩, hM.O (Or.inr ho) (fun r hr => Or.inl (by have := hS _ hr; exact sScr_m (by omega)))⟩
  · rw [if_neg c]
    refine hx_of (cx_compareN hx ?_) (KO.bad h)
    by_cases c1 : 0 ≤ z ∧ z ≤ 9
    · refine Or.inr (fun q => c ⟨c1, ?_⟩)
      have := (ix_in hy (by omega)).mp q
      omega
    · refine Or.inl (fun q => c1 ?_)
      have := (ix_in hz (by omega)).mp q
      omega
