/-! ===== calls of the one that was built: more simple ones ===== -/
theorem fr_s1 {σ σ' : St} {x o k c : Nat} {s : Kst} (h : KI σ x o s) (hF : cW x (s1 x) k c σ σ') : cM x (s1 x) k c σ σ' ∧ SQ σ' x ∧ cO x k c σ σ' := by
  obtain ⟨hp, hx, _, _, hQ⟩ := id h.1
  have hM := hF.toM hx (fun T hT hs => by have : x + T = x := hs; rcases hT with g | g | g <;> omega)
  exact ⟨hM, hQ.st hF hx (fun r hr => by have : r = x := hr; omega), hM.O (Or.inr h.2.2.2.1.1.1) (fun r hr => Or.inr (Or.inl hr))⟩
theorem ki_failed {σ : St} {x o : Nat} {s : Kst} (h : KI σ x o s) : Hx (fX11_failed σ x) (KV x 0 0 s s.2.2.1.2.2.1 σ) := hx_of (cx_refusal h.1.2.1 h.2.1.2.2).1 (KV.same h)
theorem ki_ring {σ : St} {x o : Nat} {s : Kst} (h : KI σ x o s) : Hx (fX11_ring σ x) (KV x 0 0 s s.2.2.1.2.2.2.length σ) := hx_of (by rw [← sm_iz]; exact (cx_refusal h.1.2.1 h.2.1.2.2).2.1) (KV.same h)
theorem ki_refused {σ : St} {x o : Nat} {s : Kst} {z : Int} (hz : -2147483648 ≤ z ∧ z < 2147483648) (h : KI σ x o s) : Hx (fX11_refused σ x (iz z)) (KO x 0 0 s (if 0 ≤ z ∧ z ≤ 1 then none else some "java/lang/IllegalArgumentException") (if z = 0 then s.2.2.1.1 else s.2.2.1.2.1) σ) := by
  obtain ⟨_, _, g3, g4⟩ := cx_refusal h.1.2.1 h.2.1.2.2
  by_cases c0 : z = 0
  · subst c0
    rw [if_pos (by omega), if_pos rfl, show iz 0 = nI 0 from rfl]
    exact hx_of g3 (KO.same h)
  · by_cases c1 : z = 1
    · subst c1
      rw [if_pos (by omega), if_neg c0, show iz 1 = nI 1 from rfl]
      exact hx_of g4 (KO.same h)
    · rw [if_neg (by omega)]
      refine hx_of (cx_refusedN (fun q => c0 ?_) (fun q => c1 ?_)) (KO.bad h)
      · exact ix_eq (i := 0) hz (by omega) q
      · exact ix_eq (i := 1) hz (by omega) q
theorem ki_ringAt {σ : St} {x o : Nat} {s : Kst} {z : Int} (hz : -2147483648 ≤ z ∧ z < 2147483648) (h : KI σ x o s) : Hx (fX11_ringAt σ x (iz z)) (KO x 0 0 s (if 0 ≤ z ∧ z < s.2.2.1.2.2.2.length then none else some "java/lang/IndexOutOfBoundsException") (atI s.2.2.1.2.2.2 z id) σ) := by
  have hl := h.2.1.2.2.2.2.2.2.1
  refine (cx_ringAt h.1.2.1 h.2.1.2.2).mo (fun σ' w g => ?_)
  rcases g with ⟨i, y, g1, g2, rfl, rfl⟩ | ⟨g1, rfl, rfl⟩
  · have hi := (List.getElem?_eq_some_iff.mp g2).1
    have hzi := ix_eq hz (by omega) g1
    subst hzi
    rw [if_pos (by omega), atI_of g2]
    exact KO.same h
  · rw [if_neg (fun q => g1 ((ix_in hz (by omega)).mpr q))]
    exact KO.bad h
theorem ki_stepAt {σ : St} {x o : Nat} {s : Kst} {z : Int} (hz : -2147483648 ≤ z ∧ z < 2147483648) (hl : s.2.2.2.2.2.2.1.length ≤ 200) (h : KI σ x o s) : Hx (fX11_stepAt σ x (iz z)) (KO x 0 0 s (if 0 ≤ z ∧ z < s.2.2.2.2.2.2.1.length then none else some "java/lang/IndexOutOfBoundsException") (atI s.2.2.2.2.2.2.1 z (fun p => (p.1 : Int))) σ) := by
  refine (cx_stepAt h.1.2.1 h.2.2.2.1.1 h.2.2.2.1.2 hl).mo (fun σ' w g => ?_)
  rcases g with ⟨i, y, g1, g2, rfl, rfl⟩ | ⟨g1, rfl, rfl⟩
  · have hi := (List.getElem?_eq_some_iff.mp g2).1
    have hzi := ix_eq hz (by omega) g1
    subst hzi
    rw [if_pos (by omega), atI_of g2, sm_iz]
    exact KO.same h
  · rw [if_neg (fun q => g1 ((ix_in hz (by omega)).mpr q))]
    exact KO.bad h
theorem ki_nameAt {σ : St} {x o : Nat} {s : Kst} {A : As} {z : Int} (hz : -2147483648 ≤ z ∧ z < 2147483648) (h : KI σ x o s) (hA : s.2.2.2.2.2.2.2.2[s.2.2.2.2.2.2.2.1]? = some A) (hl : A.1.length ≤ 20) : Hx (fX11_nameAt σ x (iz z)) (KO x 0 0 s (if 0 ≤ z ∧ z < A.1.length then none else some "java/lang/IndexOutOfBoundsException") (atI A.1 z (fun e => (e.1 : Int))) σ) := by
  refine (cx_nameAt h.1.2.1 h.2.2.2.2.1 hA).mo (fun σ' w g => ?_)
  rcases g with ⟨i, y, g1, g2, rfl, rfl⟩ | ⟨g1, rfl, rfl⟩
  · have hi := (List.getElem?_eq_some_iff.mp g2).1
    have hzi := ix_eq hz (by omega) g1
    subst hzi
    rw [if_pos (by omega), atI_of g2, sm_iz]
    exact KO.same h
  · rw [if_neg (fun q => g1 ((ix_in hz (by omega)).mpr q))]
    exact KO.bad h
theorem fnd_of {α β : Type} {f : α → Nat} {g : α → β} {l : List α} {v : Int32} {k : Nat} {e : α} (h : fixI (l.map f) v = some k) (he : l[k]? = some e) : fnd f g l v = some (g e) := by
  unfold fnd
  rw [h]
  show l[k]?.map g = _
  rw [he]
  rfl
theorem ki_parameters {σ : St} {x o : Nat} {s : Kst} {A : As} {v : Int32} (h : KI σ x o s) (hA : s.2.2.2.2.2.2.2.2[s.2.2.2.2.2.2.2.1]? = some A) : Hx (fX11_parameters σ x v) (KO x 0 0 s (if (fnd (·.1) (·.2.1) A.2.1 v).isSome then none else some "java/util/NoSuchElementException") ((fnd (·.1) (·.2.1) A.2.1 v).getD 0 : Nat) σ) := by
  refine (cx_parameters h.1.2.1 h.2.2.2.2.1 hA).mo (fun σ' w g => ?_)
  rcases g with ⟨k, e, g1, g2, rfl, rfl⟩ | ⟨g1, rfl, rfl⟩
  · rw [fnd_of (f := fun (x : FE) => x.1) g1 g2, sm_iz]
    exact KO.same h
  · rw [fnd_none (f := fun (x : FE) => x.1) g1]
    exact KO.bad h
theorem ki_takeName {σ : St} {x o : Nat} {s : Kst} {A : As} {v : Int32} (h : KI σ x o s) (hA : s.2.2.2.2.2.2.2.2[s.2.2.2.2.2.2.2.1]? = some A) : Hx (fX11_takeName σ x v) (KO x 0 0 (if (fnd (·.1) (·.2.2) A.1 v).isSome then ansK s ((fnd (·.1) (·.2.2) A.1 v).getD (0, 0, 1)) else s) (if (fnd (·.1) (·.2.2) A.1 v).isSome then none else some "java/util/NoSuchElementException") ((fnd (·.1) (·.2.2) A.1 v).getD (0, 0, 1)).1 σ) := by
  obtain ⟨hp, hx, _, _, hQ⟩ := id h.1
  refine (cx_takeName hp hx hQ h.2.2.2.2.1 hA).mo (fun σ' w g => ?_)
  rcases g with ⟨k, e, g1, g2, g3, g4, g5, g6, rfl⟩ | ⟨g1, rfl, rfl⟩
  · rw [fnd_of (f := fun (x : NE) => x.1) g1 g2]
    obtain ⟨hM, hQ', hO⟩ := fr_s1 h g3
    exact ⟨rfl, ⟨o, h.an hM hQ' (fun r hr => Or.inr hr) (fun q => by have : x + 65 = x := q; omega) g4 g6⟩, hO⟩
  · rw [fnd_none (f := fun (x : NE) => x.1) g1]
    exact KO.bad h
theorem ki_take {σ : St} {x o : Nat} {s : Kst} {z : Int} (hz : -2147483648 ≤ z ∧ z < 2147483648) (h : KI σ x o s) : Hx (fX11_take σ x (iz z)) (KO x 0 0 (if 0 ≤ z ∧ z ≤ 9 then ansK s (atQ s.2.2.2.2.1 z) else s) (if 0 ≤ z ∧ z ≤ 9 then none else some "java/lang/IllegalArgumentException") (atQ s.2.2.2.2.1 z).1 σ) := by
  obtain ⟨hp, hx, _, _, hQ⟩ := id h.1
  have hsl := h.2.2.1.2.1
  by_cases c : 0 ≤ z ∧ z ≤ 9
  · obtain ⟨i, rfl⟩ := Int.eq_ofNat_of_zero_le c.1
    have hi : i < s.2.2.2.2.1.length := by rw [hsl.1]; omega
    rw [if_pos c, if_pos c, atQ_of (List.getElem?_eq_getElem hi), ← sm_iz]
    refine (cx_take hp hx hQ h.2.2.2.2.1 hsl (List.getElem?_eq_getElem hi)).mo (fun σ' w g => ?_)
    obtain ⟨g1, g2, g3, g4, rfl⟩ := g
    obtain ⟨hM, hQ', hO⟩ := fr_s1 h g1
    exact ⟨rfl, ⟨o, h.an hM hQ' (fun r hr => Or.inr hr) (fun q => by have : x + 65 = x := q; omega) g2 g4⟩, hO⟩
  · rw [if_neg c, if_neg c]
    have hn : ¬ ∃ r : Nat, r < 10 ∧ iz z = nI r := fun q => c (by have := (ix_in hz (by omega)).mp q; omega)
    refine hx_of ?_ (KO.bad h)
    apply hx_eq
    rw [n_fX11_take, sm_ckK (show sK σ x = 16 from hx.kd 0 16 (by decide))]
    refine hx_bs ?_
    rw [cx_isSlot hx]
    refine hx_cs ?_
    refine Hx.ce b01_0 (fun _ => Hx.ret ⟨rfl, rfl⟩) (fun q => absurd hn q)
