/-! ===== calls of the one that was built: rows of values, dropping ===== -/
def upN (now : Nat) : Nat := if now + 1 < 21 then now + 1 else 20
/-- another state is the present one -/
def newK (s : Kst) (A' : As) : Kst := hist s (upN s.2.2.2.2.2.2.2.1) (chg s.2.2.2.2.2.2.2.1 s.2.2.2.2.2.2.2.2 A')
theorem fr_rw {σ σ' : St} {x o k c : Nat} {s : Kst} (h : KI σ x o s) (hF : cW x (sRw x) k c σ σ') : cM x (sRw x) k c σ σ' ∧ SQ σ' x ∧ cO x k c σ σ' ∧ (∀ r, sRw x r → sScr σ x o r ∨ r = x ∨ r = x + 17) ∧ ¬ sRw x (x + 65) := by
  obtain ⟨hp, hx, _, _, hQ⟩ := id h.1
  have hS : ∀ r, sRw x r → r = x ∨ r = x + 17 ∨ r = x + 37 ∨ r = x + 39 := fun r hr => hr
  have hM := hF.toM hx (fun T hT hs => by have := hS _ hs; rcases hT with g | g | g <;> omega)
  have h3 : ∀ r, sRw x r → sScr σ x o r ∨ r = x ∨ r = x + 17 := fun r hr => by
    rcases hS r hr with q | q | q | q
    · exact Or.inr (Or.inl q)
    · exact Or.inr (Or.inr q)
    · exact Or.inl (sScr_m (by omega))
    · exact Or.inl (sScr_m (by omega))
  exact ⟨hM, hQ.st hF hx (fun r hr => by have := hS _ hr; omega), hM.O (Or.inr h.2.2.2.1.1.1) (fun r hr => by
    rcases h3 r hr with q | q | q
    · exact Or.inl q
    · exact Or.inr (Or.inl q)
    · exact Or.inr (Or.inr (Or.inr (Or.inr (Or.inr (Or.inr (Or.inr q))))))), h3, fun q => by have := hS _ q; omega⟩
theorem ki_count {σ : St} {x o : Nat} {s : Kst} {A : As} {r : Nat} {vs : List Qv} {b : Int32} (h : KI σ x o s) (hA : s.2.2.2.2.2.2.2.2[s.2.2.2.2.2.2.2.1]? = some A) (hr : r < 3) (hvs : A.2.2[r]? = some vs) : Hx (fX11_count σ x (nI r) b) (KO x 0 0 s none (if b = nI 0 then cbl s.2.2.2.1 vs else csm s.2.2.2.1 (vs.drop (cbl s.2.2.2.1 vs)) : Nat) σ) := by
  obtain ⟨hp, hx, _, _, hQ⟩ := id h.1
  refine (cx_count hp hx hQ h.2.2.2.2.1 hA hr hvs h.2.2.1.1).mo (fun σ' w g => ?_)
  obtain ⟨g1, g2, g3, rfl⟩ := g
  obtain ⟨hM, hQ', hO, hS, h65⟩ := fr_rw h g1
  exact ⟨by rw [sm_iz], ⟨o, h.hs hM hQ' hS h65 g2 (fun f hf => by cases hf) g3⟩, hO⟩
theorem ki_empty {σ : St} {x o : Nat} {s : Kst} {A : As} {r : Nat} {vs : List Qv} (h : KI σ x o s) (hA : s.2.2.2.2.2.2.2.2[s.2.2.2.2.2.2.2.1]? = some A) (hr : r < 3) (hvs : A.2.2[r]? = some vs) : Hx (fX11_empty σ x (nI r)) (KO x 65 4 (newK s (A.1, A.2.1, A.2.2.set r [])) none vs.length σ) := by
  obtain ⟨hp, hx, _, _, hQ⟩ := id h.1
  refine (cx_empty hp hx hQ h.2.2.2.2.1 hA hr hvs).mo (fun σ' w g => ?_)
  obtain ⟨g1, g2, g3, rfl⟩ := g
  obtain ⟨hM, hQ', hO, hS, h65⟩ := fr_rw h g1
  exact ⟨by rw [sm_iz], ⟨o, h.hs hM hQ' hS h65 g2 (fun f hf => by simp only [List.mem_cons, List.not_mem_nil, or_false] at hf; exact hf) g3⟩, hO⟩
theorem ki_put {σ : St} {x o : Nat} {s : Kst} {A : As} {r : Nat} {vs : List Qv} (h : KI σ x o s) (hA : s.2.2.2.2.2.2.2.2[s.2.2.2.2.2.2.2.1]? = some A) (hr : r < 3) (hvs : A.2.2[r]? = some vs) : Hx (fX11_put σ x (nI r)) (KO x 65 4 (if vs.length < 50 then newK s (A.1, A.2.1, A.2.2.set r (plL vs (cbl s.2.2.2.1 vs) 1 s.2.2.2.1)) else s) (if vs.length < 50 then none else some "java/lang/IllegalStateException") (vs.length + 1 : Nat) σ) := by
  obtain ⟨hp, hx, _, _, hQ⟩ := id h.1
  refine (cx_put hp hx hQ h.2.2.2.2.1 hA hr hvs h.2.2.1.1).mo (fun σ' w g => ?_)
  by_cases c : vs.length < 50
  · rw [if_pos c] at g
    rw [if_pos c, if_pos c]
    obtain ⟨g1, g2, g3, rfl⟩ := g
    obtain ⟨hM, hQ', hO, hS, h65⟩ := fr_rw h g1
    exact ⟨by rw [sm_iz], ⟨o, h.hs hM hQ' hS h65 g2 (fun f hf => by simp only [List.mem_cons, List.not_mem_nil, or_false] at hf; exact hf) g3⟩, hO⟩
  · rw [if_neg c] at g
    rw [if_neg c, if_neg c]
    obtain ⟨rfl, rfl⟩ := g
    exact ⟨rfl, σ, rfl, ⟨o, h⟩, (cO.rf h.1.1).mo (by omega) (by omega)⟩
theorem ki_out {σ : St} {x o : Nat} {s : Kst} {A : As} {r : Nat} {vs : List Qv} (h : KI σ x o s) (hA : s.2.2.2.2.2.2.2.2[s.2.2.2.2.2.2.2.1]? = some A) (hr : r < 3) (hvs : A.2.2[r]? = some vs) : Hx (fX11_out σ x (nI r)) (KO x 65 4 (if csm s.2.2.2.1 (vs.drop (cbl s.2.2.2.1 vs)) = 0 then s else newK s (A.1, A.2.1, A.2.2.set r (vs.eraseIdx (cbl s.2.2.2.1 vs)))) (if csm s.2.2.2.1 (vs.drop (cbl s.2.2.2.1 vs)) = 0 then some "java/util/NoSuchElementException" else none) (vs.length - 1 : Nat) σ) := by
  obtain ⟨hp, hx, _, _, hQ⟩ := id h.1
  refine (cx_out hp hx hQ h.2.2.2.2.1 hA hr hvs h.2.2.1.1).mo (fun σ' w g => ?_)
  by_cases c : csm s.2.2.2.1 (vs.drop (cbl s.2.2.2.1 vs)) = 0
  · rw [if_pos c] at g
    rw [if_pos c, if_pos c]
    obtain ⟨⟨σ1, g1, g2, g3, rfl⟩, rfl⟩ := g
    obtain ⟨hM, hQ', hO, hS, h65⟩ := fr_rw h g1
    exact ⟨rfl, σ1, rfl, ⟨o, h.hs hM hQ' hS h65 g2 (fun f hf => by cases hf) g3⟩, hO.mo (by omega) (by omega)⟩
  · rw [if_neg c] at g
    rw [if_neg c, if_neg c]
    obtain ⟨g1, g2, g3, rfl⟩ := g
    obtain ⟨hM, hQ', hO, hS, h65⟩ := fr_rw h g1
    exact ⟨by rw [sm_iz], ⟨o, h.hs hM hQ' hS h65 g2 (fun f hf => by simp only [List.mem_cons, List.not_mem_nil, or_false] at hf; exact hf) g3⟩, hO⟩
theorem ki_takeLeast {σ : St} {x o : Nat} {s : Kst} {A : As} {r : Nat} {vs : List Qv} {y : Int} (hy : -2147483648 ≤ y ∧ y < 2147483648) (hl : vs.length ≤ 50) (h : KI σ x o s) (hA : s.2.2.2.2.2.2.2.2[s.2.2.2.2.2.2.2.1]? = some A) (hr : r < 3) (hvs : A.2.2[r]? = some vs) : Hx (fX11_takeLeast σ x (nI r) (iz y)) (KO x 0 0 (if 0 ≤ y ∧ y < vs.length then ansK s (atQ vs y) else s) (if 0 ≤ y ∧ y < vs.length then none else some "java/lang/IndexOutOfBoundsException") (atQ vs y).1 σ) := by
  obtain ⟨hp, hx, _, _, hQ⟩ := id h.1
  refine (cx_takeLeast hp hx hQ h.2.2.2.2.1 hA hr hvs).mo (fun σ' w g => ?_)
  rcases g with ⟨i, q, g1, g2, g3, g4, g5, g6, rfl⟩ | ⟨g1, rfl, rfl⟩
  · have hi := (List.getElem?_eq_some_iff.mp g2).1
    have hzi := ix_eq hy (by omega) g1
    subst hzi
    rw [if_pos (by omega), if_pos (by omega), atQ_of g2]
    obtain ⟨hM, hQ', hO⟩ := fr_s1 h g3
    exact ⟨rfl, ⟨o, h.an hM hQ' (fun r hr => Or.inr hr) (fun q => by have : x + 65 = x := q; omega) g4 g6⟩, hO⟩
  · have hn : ¬ (0 ≤ y ∧ y < (vs.length : Int)) := fun q => g1 ((ix_in hy (by omega)).mpr q)
    rw [if_neg hn, if_neg hn]
    exact KO.bad h
theorem ki_takeNext {σ : St} {x o : Nat} {s : Kst} {A : As} {r : Nat} {vs : List Qv} (h : KI σ x o s) (hA : s.2.2.2.2.2.2.2.2[s.2.2.2.2.2.2.2.1]? = some A) (hr : r < 3) (hvs : A.2.2[r]? = some vs) : Hx (fX11_takeNext σ x (nI r)) (fun σ' w => match vs[cbl s.2.2.2.1 vs + csm s.2.2.2.1 (vs.drop (cbl s.2.2.2.1 vs))]? with
    | some q => KO x 0 0 (ansK s q) none (csm q (vs.drop (cbl s.2.2.2.1 vs + csm s.2.2.2.1 (vs.drop (cbl s.2.2.2.1 vs)))) : Nat) σ σ' w
    | none => KO x 0 0 s (some "java/util/NoSuchElementException") 0 σ σ' w) := by
  obtain ⟨hp, hx, _, _, hQ⟩ := id h.1
  refine (cx_takeNext hp hx hQ h.2.2.2.2.1 hA hr hvs h.2.2.1.1).mo (fun σ' w g => ?_)
  cases hq : vs[cbl s.2.2.2.1 vs + csm s.2.2.2.1 (vs.drop (cbl s.2.2.2.1 vs))]? with
  | some q =>
    rw [hq] at g
    obtain ⟨g1, g2, g3, g4, rfl⟩ := g
    have ho := h.2.2.2.1.1.1
    have hS : ∀ r, sRw x r → r = x ∨ r = x + 17 ∨ r = x + 37 ∨ r = x + 39 := fun r hr => hr
    -- the answer's frame: what is written is scratch, or the first cell; x + 17 stays as it was
    obtain ⟨hM, hQ', hO, hS3, h65⟩ := fr_rw h g1
    have hcl : KI σ' x o (ansK s q) := by
      obtain ⟨h0, ⟨t1, t2, t3⟩, ⟨a1, a2, a3, a4⟩, ⟨p1, p2⟩, hh, w, wp, hw⟩ := h
      have hS9 : ∀ r, sRw x r → sScr σ x o r ∨ r = x ∨ r = x + 1 ∨ r = x + 2 ∨ r = x + 8 ∨ r = x + 9 ∨ r = x + 17 := fun r hr => by
        rcases hS3 r hr with q | q | q
        · exact Or.inl q
        · exact Or.inr (Or.inl q)
        · exact Or.inr (Or.inr (Or.inr (Or.inr (Or.inr (Or.inr q)))))
      obtain ⟨e0, hB⟩ := h0.scr ho hM hQ' hS9
      have ne : ∀ r, r ≠ x → r ≠ x + 17 → r ≠ x + 37 → r ≠ x + 39 → ¬ sRw x r := fun r n1 n2 n3 n4 q => by
        rcases hS r q with z | z | z | z
        · exact n1 z
        · exact n2 z
        · exact n3 z
        · exact n4 z
      have nf : ∀ f, f ≠ fid 15 8 → sF σ' f x = sF σ f x := g2.2
      refine ⟨e0, ⟨t1.kW g1 hx (g2.1 _) (ne _ (by omega) (by omega) (by omega) (by omega)), (g2.1 _).trans t2, t3.kW g1 hx (fun f _ => g2.1 f) (ne _ (by omega) (by omega) (by omega) (by omega))⟩, ⟨g4, a2.kW g1 hx hB hQ (ne _ (by omega) (by omega) (by omega) (by omega)), a3.kW g1 (ne _ (by omega) (by omega) (by omega) (by omega)) (fun q => ?_), ?_⟩, ⟨⟨ho, (nf _ (by decide)).trans p1.2.1, (nf _ (by decide)).trans p1.2.2⟩, p2.scr hx hQ ho hM hS9⟩, g3, w, wp, hw.kW g1 hx (ne _ (by omega) (by omega) (by omega) (by omega))⟩
      · have k101 := a3.2.2.2.1.1
        have := hS _ q
        rcases a4 with e | e <;> omega
      · have k2 := a3.1
        rw [(g1.sam (a := x + 9) (by omega) (Or.inl (by omega)) (ne _ (by omega) (by omega) (by omega) (by omega))).2.1]
        exact a4
    exact ⟨by rw [sm_iz], ⟨o, hcl⟩, hO⟩
  | none =>
    rw [hq] at g
    obtain ⟨⟨σ1, g1, g2, g3, rfl⟩, rfl⟩ := g
    obtain ⟨hM, hQ', hO, hS, h65⟩ := fr_rw h g1
    exact ⟨rfl, σ1, rfl, ⟨o, h.hs hM hQ' hS h65 g2 (fun f hf => by cases hf) g3⟩, hO⟩
theorem ki_noRow {σ : St} {x o : Nat} {s : Kst} {A : As} {z : Int} (hz : -2147483648 ≤ z ∧ z < 2147483648) (h : KI σ x o s) (hA : s.2.2.2.2.2.2.2.2[s.2.2.2.2.2.2.2.1]? = some A) (hn : ¬ (0 ≤ z ∧ z ≤ 2)) (b : Int32) :
    (Hx (fX11_put σ x (iz z)) (KO x 65 4 s (some "java/lang/IllegalArgumentException") 0 σ)) ∧ (Hx (fX11_out σ x (iz z)) (KO x 65 4 s (some "java/lang/IllegalArgumentException") 0 σ)) ∧ (Hx (fX11_empty σ x (iz z)) (KO x 65 4 s (some "java/lang/IllegalArgumentException") 0 σ)) ∧ (Hx (fX11_count σ x (iz z) b) (KO x 0 0 s (some "java/lang/IllegalArgumentException") 0 σ)) ∧ (Hx (fX11_takeLeast σ x (iz z) b) (KO x 0 0 s (some "java/lang/IllegalArgumentException") 0 σ)) ∧ Hx (fX11_takeNext σ x (iz z)) (KO x 0 0 s (some "java/lang/IllegalArgumentException") 0 σ) := by
  have hx := h.1.2.1
  have hr : ¬ ∃ r : Nat, r < 3 ∧ iz z = nI r := fun q => hn (by have := (ix_in hz (by omega)).mp q; omega)
  have e := cx_noRow hx h.2.2.2.2.1 hA hr
  have ck := sm_ckK (show sK σ x = 16 from hx.kd 0 16 (by decide))
  have kb : KO x 65 4 s (some "java/lang/IllegalArgumentException") 0 σ (th σ) (.inl "java/lang/IllegalArgumentException") := ⟨rfl, σ, rfl, ⟨o, h⟩, (cO.rf h.1.1).mo (by omega) (by omega)⟩
  have kb0 : KO x 0 0 s (some "java/lang/IllegalArgumentException") 0 σ (th σ) (.inl "java/lang/IllegalArgumentException") := KO.bad h
  refine ⟨?_, ?_, ?_, ?_, ?_, ?_⟩
  · rw [n_fX11_put, ck]
    refine hx_bs ?_
    rw [e]
    exact hx_cs (Hx.ce rfl (fun _ => Hx.ret kb) (fun q => absurd rfl q))
  · rw [n_fX11_out, ck]
    refine hx_bs ?_
    rw [e]
    exact hx_cs (Hx.ce rfl (fun _ => Hx.ret kb) (fun q => absurd rfl q))
  · rw [n_fX11_empty, ck]
    refine hx_bs ?_
    rw [e]
    exact hx_cs (Hx.ce rfl (fun _ => Hx.ret kb) (fun q => absurd rfl q))
  · rw [n_fX11_count, ck]
    refine hx_bs ?_
    rw [e]
    exact hx_cs (Hx.ce rfl (fun _ => Hx.ret kb0) (fun q => absurd rfl q))
  · rw [n_fX11_takeLeast, ck]
    refine hx_bs ?_
    rw [e]
    exact hx_cs (Hx.ce rfl (fun _ => Hx.ret kb0) (fun q => absurd rfl q))
  · rw [n_fX11_takeNext, ck]
    refine hx_bs ?_
    rw [e]
    exact hx_cs (Hx.ce rfl (fun _ => Hx.ret kb0) (fun q => absurd rfl q))
theorem ki_drop {σ : St} {x o f : Nat} {s : Kst} {A : As} {v : Int32} (hf : f ≤ 1) (h : KI σ x o s) (hA : s.2.2.2.2.2.2.2.2[s.2.2.2.2.2.2.2.1]? = some A) (hb : Bkc A) : Hx (fX11_drop σ x v (nI f)) (fun σ' w => match (fixI (if f = 0 then A.1.map (·.1) else A.2.1.map (·.1)) v).map ((if f = 0 then 0 else A.1.length) + ·) with
    | none => KO x 102 5 s (some "java/util/NoSuchElementException") 0 σ σ' w
    | some p => ((∃ (i : Nat) (e : Th), (Ths A.1 A.2.1)[i]? = some e ∧ rS (Ths A.1 A.2.1) e.2.2 p) ∧ KO x 102 5 s (some "java/lang/IllegalStateException") 0 σ σ' w) ∨
        (¬ (∃ (i : Nat) (e : Th), (Ths A.1 A.2.1)[i]? = some e ∧ rS (Ths A.1 A.2.1) e.2.2 p) ∧ KO x 102 5 (newK s (drN A.1 p, drF A.1 A.2.1 p, A.2.2)) none ((drN A.1 p).length + (drF A.1 A.2.1 p).length : Nat) σ σ' w)) := by
  obtain ⟨hp, hx, _, _, hQ⟩ := id h.1
  have ho := h.2.2.2.1.1.1
  have bad : ∀ e, KO x 102 5 s (some e) 0 σ (th σ) (.inl e) := fun e => ⟨rfl, σ, rfl, ⟨o, h⟩, (cO.rf h.1.1).mo (by omega) (by omega)⟩
  refine (cx_drop hp hx hQ h.2.2.2.2.1 hA hf hb.2.1 hb.2.2.1 hb.1.1 hb.1.2.1).mo (fun σ' w g => ?_)
  cases hq : (fixI (if f = 0 then A.1.map (·.1) else A.2.1.map (·.1)) v).map ((if f = 0 then 0 else A.1.length) + ·) with
  | none =>
    rw [hq] at g
    obtain ⟨rfl, rfl⟩ := g
    exact bad _
  | some p =>
    rw [hq] at g
    rcases g with ⟨g1, rfl, rfl⟩ | ⟨g1, g2, g3, g4, rfl⟩
    · exact Or.inl ⟨g1, bad _⟩
    · have hS : ∀ r, s2 x (x + 17) r → r = x ∨ r = x + 17 := fun r hr => hr
      have hM := g2.toM hx (fun T hT hs => by have := hS _ hs; rcases hT with g | g | g <;> omega)
      have hQ' := hQ.st g2 hx (fun r hr => by have := hS _ hr; omega)
      refine Or.inr ⟨g1, by rw [sm_iz], ⟨o, h.hs hM hQ' (fun r hr => Or.inr (hS r hr)) (fun q => by have := hS _ q; omega) g3 (fun f hf => by simp only [List.mem_cons, List.not_mem_nil, or_false] at hf; exact hf) g4⟩, hM.O (Or.inr ho) (fun r hr => ?_)⟩
      rcases hS r hr with q | q
      · exact Or.inr (Or.inl q)
      · exact Or.inr (Or.inr (Or.inr (Or.inr (Or.inr (Or.inr (Or.inr q))))))
