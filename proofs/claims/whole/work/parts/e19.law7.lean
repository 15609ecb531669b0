/-! ===== the law: drop, run ===== -/
section
variable {x b L i c9 w9 : Nat} {xs : Nat → Int32} {s s' : Kst} {c c' : Rct} {h h' : As × List As × List As} {σ σ' : St} {k23 : St → Nat → Nat → Nat → Nat → Int32 → Prop}
theorem isu_iff {A B : As} (hT : Bti A B) {p : Nat} {t : Th} (ht : (Ths A.1 A.2.1)[p]? = some t) : isu B t ↔ ∃ (i : Nat) (e : Th), (Ths A.1 A.2.1)[i]? = some e ∧ rS (Ths A.1 A.2.1) e.2.2 p := by
  constructor
  · rintro ⟨y, hy, hr⟩
    obtain ⟨i, hi⟩ := List.getElem?_of_mem ((hT.T y).mp hy)
    exact ⟨i, y, hi, t, ht, (Rch.congr hT.T).mp hr⟩
  · rintro ⟨i, e, hi, t', ht', hr⟩
    rw [ht] at ht'
    cases ht'
    exact ⟨e, (hT.T e).mpr (List.mem_of_getElem? hi), (Rch.congr hT.T).mpr hr⟩
/-- what drop comes to -/
theorem drop_pure {A B : As} {f : Nat} {v : Int32} (hf : f ≤ 1) (hA : Bkz A) (hT : Bti A B) :
    (thq B f v = none ∧ (fixI (if f = 0 then A.1.map (·.1) else A.2.1.map (·.1)) v).map ((if f = 0 then 0 else A.1.length) + ·) = none) ∨
    ∃ t p, thq B f v = some t ∧ (fixI (if f = 0 then A.1.map (·.1) else A.2.1.map (·.1)) v).map ((if f = 0 then 0 else A.1.length) + ·) = some p ∧ (Ths A.1 A.2.1)[p]? = some t ∧
      (¬ isu B t → Bkz (drN A.1 p, drF A.1 A.2.1 p, A.2.2) ∧ Bti (drN A.1 p, drF A.1 A.2.1 p, A.2.2) (drB B f v)) := by
  rw [bti_thq hT hA]
  have hno : ∀ {t : Th}, ¬ isu B t → ∀ y ∈ Ths A.1 A.2.1, ¬ Rch (Ths A.1 A.2.1) y.2.2 t := fun hn y hy hr => hn ⟨y, (hT.T y).mpr hy, (Rch.congr hT.T).mpr hr⟩
  by_cases c0 : f = 0
  · subst c0
    unfold thq
    rw [if_pos rfl, if_pos rfl, if_pos rfl]
    cases hk : fixI (A.1.map (·.1)) v with
    | none => exact Or.inl ⟨fnd_none hk, rfl⟩
    | some k =>
      obtain ⟨e, h1, h2, h3⟩ := fnd_some (g := fun e : NE => ((0, e.1, e.2.1) : Th)) hk
      have hkl := (List.getElem?_eq_some_iff.mp h1).1
      refine Or.inr ⟨_, 0 + k, h3, rfl, by rw [Nat.zero_add]; exact Ths_gt h1, fun hn => ?_⟩
      rw [Nat.zero_add]
      unfold drN drF drB
      rw [if_pos hkl, if_pos hkl, if_pos rfl]
      have hB1 : ∃ kB, fixI (B.1.map (·.1)) v = some kB := by
        cases hq : fixI (B.1.map (·.1)) v with
        | some kB => exact ⟨kB, rfl⟩
        | none =>
          have e1 := fnd_none (g := fun e : NE => ((0, e.1, e.2.1) : Th)) hq
          rw [hT.f1 hA, h3] at e1
          cases e1
      obtain ⟨kB, hkB⟩ := hB1
      obtain ⟨e', g1, g2, g3⟩ := fnd_some (g := fun e : NE => ((0, e.1, e.2.1) : Th)) hkB
      rw [hkB]
      have hee : e'.1 = e.1 := (sm_eq (hA.w1 e' ((hT.1.1 e').mp (List.mem_of_getElem? g1))) (hA.w1 e (List.mem_of_getElem? h1))).mp (g2.trans h2.symm)
      have m1 := er_mem hA.1.srt.1.unq h1
      have m2 := er_mem hT.2.2.1 g1
      refine ⟨hA.drop (t := (0, e.1, e.2.1)) (List.eraseIdx_sublist _ _) (List.Sublist.refl _) (fun y => ?_) (fun y => ?_) (Ths_n (List.mem_of_getElem? h1)) (hno hn), ⟨⟨fun y => ?_, hT.1.2⟩, hT.2.1, er_unq hT.2.2.1, hT.2.2.2⟩⟩
      · rw [m1]; exact ⟨fun z => ⟨z.1, fun _ => z.2⟩, fun z => ⟨z.1, z.2 rfl⟩⟩
      · exact ⟨fun z => ⟨z, fun q => by cases q⟩, fun z => z.1⟩
      · show y ∈ B.1.eraseIdx kB ↔ y ∈ A.1.eraseIdx k
        rw [m1, m2, hee, hT.1.1 y]
  · have c1 : f = 1 := by omega
    subst c1
    unfold thq
    rw [if_neg c0, if_neg c0, if_neg c0]
    cases hk : fixI (A.2.1.map (·.1)) v with
    | none => exact Or.inl ⟨fnd_none hk, rfl⟩
    | some k =>
      obtain ⟨e, h1, h2, h3⟩ := fnd_some (g := fun e : FE => ((1, e.1, e.2.2) : Th)) hk
      have hkl := (List.getElem?_eq_some_iff.mp h1).1
      refine Or.inr ⟨_, A.1.length + k, h3, rfl, ?_, fun hn => ?_⟩
      · rw [Ths_get, if_neg (by omega), Nat.add_sub_cancel_left, h1]
        rfl
      unfold drN drF drB
      rw [if_neg (by omega), if_neg (by omega), if_neg c0, Nat.add_sub_cancel_left]
      have hB1 : ∃ kB, fixI (B.2.1.map (·.1)) v = some kB := by
        cases hq : fixI (B.2.1.map (·.1)) v with
        | some kB => exact ⟨kB, rfl⟩
        | none =>
          have e1 := fnd_none (g := fun e : FE => ((1, e.1, e.2.2) : Th)) hq
          rw [hT.f2 hA, h3] at e1
          cases e1
      obtain ⟨kB, hkB⟩ := hB1
      obtain ⟨e', g1, g2, g3⟩ := fnd_some (g := fun e : FE => ((1, e.1, e.2.2) : Th)) hkB
      rw [hkB]
      have hee : e'.1 = e.1 := (sm_eq (hA.w2 e' ((hT.1.2 e').mp (List.mem_of_getElem? g1))) (hA.w2 e (List.mem_of_getElem? h1))).mp (g2.trans h2.symm)
      have m1 := er_mem hA.1.srt.2.unq h1
      have m2 := er_mem hT.2.2.2 g1
      refine ⟨hA.drop (t := (1, e.1, e.2.2)) (List.Sublist.refl _) (List.eraseIdx_sublist _ _) (fun y => ?_) (fun y => ?_) (Ths_f (List.mem_of_getElem? h1)) (hno hn), ⟨⟨hT.1.1, fun y => ?_⟩, hT.2.1, hT.2.2.1, er_unq hT.2.2.2⟩⟩
      · exact ⟨fun z => ⟨z, fun q => by cases q⟩, fun z => z.1⟩
      · rw [m1]; exact ⟨fun z => ⟨z.1, fun _ => z.2⟩, fun z => ⟨z.1, z.2 rfl⟩⟩
      · show y ∈ B.2.1.eraseIdx kB ↔ y ∈ A.2.1.eraseIdx k
        rw [m1, m2, hee, hT.1.2 y]
theorem hd_2 {e1 e2 : String} (hne : e2 ≠ e1) {e : String} {k : Nat} (he : (e = e1 ∧ k = 1) ∨ (e = e2 ∧ k = 2)) (τ : St) : (if e = e1 then some (τ, (1 : Int32)) else (if e = e2 then some (τ, 2) else none)) = some (τ, nI k) := by
  rcases he with ⟨rfl, rfl⟩ | ⟨rfl, rfl⟩
  · rw [if_pos rfl]; rfl
  · rw [if_neg hne, if_pos rfl]; rfl
theorem br_1315 (hn : Nx x b L xs i k23) (hL : Lo x b L xs i s c h σ) : pL_law_1315 c9 w9 k23 σ b x (x + 98) (x + 143) (nI (6 * i)) := by
  obtain ⟨o, k⟩ := hL.ki
  obtain ⟨A, hA, hG, hT⟩ := hL.now
  obtain ⟨f, hf, hv⟩ := fl_of (xs (6 * i + 2))
  refine lw_a (j := 1) hL.1 hL.2.2.2.2 (by omega) (lw_a (j := 2) hL.1 hL.2.2.2.2 (by omega) (fl_if hv (P := fun v => pL_law_1336 c9 w9 k23 σ b x (x + 98) (x + 143) (nI (6 * i)) x (xs (6 * i + 1)) v) ?_))
  have hc := ki_drop (v := xs (6 * i + 1)) hf k hA hG.1.1.1
  have hac : ∀ {B : As}, Bti A B → Acy (Ths B.1 B.2.1) := fun hT e he hr => hG.1.q.2.1 e ((hT.T e).mp he) ((Rch.congr hT.T).mp hr)
  have fin : ∀ (exc : Option String) (kk : Nat) (val : Int) (s' : Kst) (h' : As × List As × List As), Hx (fX11_drop σ x (xs (6 * i + 1)) (nI f)) (KO x 102 5 s' exc val σ) → (∀ σ1, RI σ1 (x + 98) c (rst s h) → Hx (fX12_drop σ1 (x + 98) (xs (6 * i + 1)) (nI f)) (RO (x + 98) c (rst s h) kk val (rst s' h') σ1)) → (∀ e, exc = some e → (e = "java/util/NoSuchElementException" ∧ kk = 1) ∨ (e = "java/lang/IllegalStateException" ∧ kk = 2)) → (exc = none → kk = 0) → s'.1 = s.1 → Hg s' h' → kk < 10 → pL_law_1336 c9 w9 k23 σ b x (x + 98) (x + 143) (nI (6 * i)) x (xs (6 * i + 1)) (nI f) := by
    intro exc kk val s' h' h1 h2 h3 h4 h5 h6 h7
    refine lw_w (t' := s.1.length) (hd := fun τ E => (if E = "java/util/NoSuchElementException" then some (τ, 1) else (if E = "java/lang/IllegalStateException" then some (τ, 2) else none))) hL.1 h1 (fun e he => ⟨by rcases h3 e he with q | q <;> omega, fun τ => hd_2 (by decide) (h3 e he) τ⟩) h4 (by omega) (by omega) (fun σ2 hM hj => ?_)
    refine lw_a (j := 1) hM hL.2.2.2.2 (by omega) (lw_a (j := 2) hM hL.2.2.2.2 (by omega) (fl_if hv (P := fun v => pL_law_1363 c9 w9 k23 σ2 b x (x + 98) (x + 143) (nI (6 * i)) _ (x + 98) (xs (6 * i + 1)) v) ?_))
    exact lw_17 hM (lw_r hM hj (h2 σ2 hM.2.1) (fun _ => rfl) h7 (fun σ4 c' hM4 hB => nx_of (h' := h') hn hL hM4 hB rfl (by rw [h5]) h6))
  rcases drop_pure (v := xs (6 * i + 1)) hf hG.1 hT with ⟨q1, q2⟩ | ⟨t, p, q1, q2, q3, q4⟩
  · rw [q2] at hc
    refine fin _ 1 0 s h hc (fun σ1 hR => (ri_drop (v := xs (6 * i + 1)) hf hR (hac hT)).mo (fun σ' v g => ?_)) (fun e he => by cases he; exact Or.inl ⟨rfl, rfl⟩) (fun z => by cases z) rfl hL.2.1 (by omega)
    have q1 : thq (rst s h).2.2.2.2.2.2.2.1 f (xs (6 * i + 1)) = none := q1
    rw [q1] at g
    exact g
  · rw [q2] at hc
    have q1 : thq (rst s h).2.2.2.2.2.2.2.1 f (xs (6 * i + 1)) = some t := q1
    by_cases cu : isu h.1 t
    · refine fin (some "java/lang/IllegalStateException") 2 0 s h (hc.mo (fun σ' v g => ?_)) (fun σ1 hR => (ri_drop (v := xs (6 * i + 1)) hf hR (hac hT)).mo (fun σ' v g => ?_)) (fun e he => by cases he; exact Or.inr ⟨rfl, rfl⟩) (fun z => by cases z) rfl hL.2.1 (by omega)
      · rcases g with ⟨_, g⟩ | ⟨g1, _⟩
        · exact g
        · exact absurd ((isu_iff hT q3).mp cu) g1
      · rw [q1] at g
        exact g.1 cu
    · obtain ⟨d1, d2⟩ := q4 cu
      have hG' : Good (drN A.1 p, drF A.1 A.2.1 p, A.2.2) := ⟨d1, hG.2⟩
      refine fin none 0 ((drN A.1 p).length + (drF A.1 A.2.1 p).length : Nat) (newK s (drN A.1 p, drF A.1 A.2.1 p, A.2.2)) (drB h.1 f (xs (6 * i + 1)), upU h.1 h.2.1, []) (hc.mo (fun σ' v g => ?_)) (fun σ1 hR => (ri_drop (v := xs (6 * i + 1)) hf hR (hac hT)).mo (fun σ' v g => ?_)) (fun e he => by cases he) (fun z => rfl) rfl (hg_new hL.2.1 hG' d2 rfl rfl) (by omega)
      · rcases g with ⟨g1, _⟩ | ⟨_, g⟩
        · exact absurd ((isu_iff hT q3).mpr g1) cu
        · exact g
      · rw [q1] at g
        have g := g.2 cu
        have e1 := (d2.p1 d1).length_eq
        have e2 := (d2.p2 d1).length_eq
        have e1 : (drB (rst s h).2.2.2.2.2.2.2.1 f (xs (6 * i + 1))).1.length = (drN A.1 p).length := e1
        have e2 : (drB (rst s h).2.2.2.2.2.2.2.1 f (xs (6 * i + 1))).2.1.length = (drF A.1 A.2.1 p).length := e2
        rw [e1, e2] at g
        exact g
theorem br_365 (hn : Nx x b L xs i k23) (hL : Lo x b L xs i s c h σ) : pL_law_365 c9 w9 k23 σ b x (x + 98) (x + 143) (nI (6 * i)) := by
  obtain ⟨o, k⟩ := hL.ki
  obtain ⟨A, hA, hG, hT⟩ := hL.now
  have hb := hL.bds
  obtain ⟨hp, hx, hkw, htn, hQ⟩ := id k.1
  obtain ⟨tl, tb1, tb2, tb3⟩ := k.2.1.1
  obtain ⟨w0, wp0, hw0⟩ := k.2.2.2.2.2
  have hE : ∃ E, Ev A s.1 E ∧ ∀ l v A', E = .inr (l, .inr (v, A')) → Bkz A' ∧ A'.2.2 = A.2.2 := by
    obtain ⟨σ1, v, _, hr⟩ := cr_read hp hx hkw hQ hw0 tb2 tb3 tb1
    rcases hr with ⟨j, hr, _⟩ | ⟨l, hr, _, hl, _⟩
    · exact hG.1.ev hr (fun l q => by cases q)
    · exact hG.1.ev hr (fun l' q => by cases q; omega)
  obtain ⟨E, hE, hEk⟩ := hE
  have hc := cx_run k hA hG.1.1.1 hE
  have hr : ∀ σ1, RI σ1 (x + 98) c (rst s h) → Hx (fX12_run σ1 (x + 98)) (RunQ (x + 98) c (rst s h) E σ1) := fun σ1 hR => rf_run hR hT hG.1.1 hE (by have := hb.1; have := hb.2.1; have := hb.2.2; exact ⟨by omega, by omega, by omega⟩)
  have fin : ∀ (exc : Option String) (kk : Nat) (val : Int) (s' : Kst), Hx (fX11_run σ x) (KO x (512 + 20 * s.1.length) (142 + 5 * s.1.length) s' exc val σ) → (∀ σ1, RI σ1 (x + 98) c (rst s h) → ∃ h', Hg s' h' ∧ Hx (fX12_run σ1 (x + 98)) (RO (x + 98) c (rst s h) kk val (rst s' h') σ1)) → (∀ e, exc = some e → (e = "java/lang/IllegalArgumentException" ∧ kk = 1) ∨ (e = "java/lang/ArithmeticException" ∧ kk = 2)) → (exc = none → kk = 0) → s'.1 = [] → kk < 10 → pL_law_365 c9 w9 k23 σ b x (x + 98) (x + 143) (nI (6 * i)) := by
    intro exc kk val s' h1 h2 h3 h4 h5 h7
    refine lw_w (t' := 0) (hd := fun τ E => (if E = "java/lang/IllegalArgumentException" then some (τ, 1) else (if E = "java/lang/ArithmeticException" then some (τ, 2) else none))) hL.1 h1 (fun e he => ⟨by rcases h3 e he with q | q <;> omega, fun τ => hd_2 (by decide) (h3 e he) τ⟩) h4 (by omega) (by omega) (fun σ2 hM hj => ?_)
    obtain ⟨h', h6, h8⟩ := h2 σ2 hM.2.1
    exact lw_17 hM (lw_r hM hj h8 (fun _ => rfl) h7 (fun σ4 c' hM4 hB => nx_of (h' := h') hn hL hM4 hB rfl (by rw [h5]; rfl) h6))
  cases E with
  | inl j =>
    refine fin (some "java/lang/IllegalArgumentException") 1 0 ([], ((tk s.1 j).2.2.1 : Nat), s.2.2) (hc.mo (fun σ' v g => ?_)) (fun σ1 hR => ⟨h, hL.2.1, (hr σ1 hR).mo (fun σ' v g => ?_)⟩) (fun e he => by cases he; exact Or.inl ⟨rfl, rfl⟩) (fun z => by cases z) rfl (by omega)
    · obtain ⟨g1, τ, o', g2, g3, g4⟩ := g
      exact ⟨g1, τ, g2, ⟨o', g3⟩, g4⟩
    · obtain ⟨g1, g2, g3, g4⟩ := g
      exact ⟨g1, g3, fun z => by omega, c, g4, ⟨by show c.1 + 0 ≤ _; omega, by show c.2.1 + 0 ≤ _; omega, by omega⟩⟩
  | inr lo =>
    obtain ⟨l, oc⟩ := lo
    cases oc with
    | inl rf =>
      refine fin (some "java/lang/ArithmeticException") 2 0 ([], -1, rf, s.2.2.2) (hc.mo (fun σ' v g => ?_)) (fun σ1 hR => ⟨h, hL.2.1, (hr σ1 hR).mo (fun σ' v g => ?_)⟩) (fun e he => by cases he; exact Or.inr ⟨rfl, rfl⟩) (fun z => by cases z) rfl (by omega)
      · obtain ⟨g1, τ, o', g2, g3, g4⟩ := g
        exact ⟨g1, τ, g2, ⟨o', g3⟩, g4⟩
      · obtain ⟨g1, g2, g3, g4⟩ := g
        exact ⟨g1, g3, fun z => by omega, c, g4, ⟨by show c.1 + 0 ≤ _; omega, by show c.2.1 + 0 ≤ _; omega, by omega⟩⟩
    | inr vA =>
      obtain ⟨v, A'⟩ := vA
      obtain ⟨k1, k2⟩ := hEk l v A' rfl
      have hG' : Good A' := ⟨k1, by rw [k2]; exact hG.2⟩
      refine fin none 0 ((frm s.1 : Nat) : Int) (runS (frm s.1) s v A') (hc.mo (fun σ' w g => ?_)) (fun σ1 hR => ?_) (fun e he => by cases he) (fun z => rfl) rfl (by omega)
      · obtain ⟨g1, g2, g3⟩ := g
        exact ⟨by rw [g1, sm_iz], g2, g3⟩
      · obtain ⟨σ4, w, e4, hP⟩ := hr σ1 hR
        obtain ⟨g1, g2, g3, c', B', hT', g4, g5, g6, g7⟩ := hP
        have bd : RBd c c' (rst s h) (rnS (frm s.1) (rst s h) v B') := ⟨g5.2, by show c'.2.1 + 0 ≤ _; have g6 : c'.2.1 ≤ c.2.1 + s.1.length + 1 := g6; show _ ≤ c.2.1 + s.1.length + 20; omega, g7⟩
        by_cases c0 : frm s.1 = 0
        · have e1 : rnS (frm s.1) (rst s h) v B' = rst (runS (frm s.1) s v A') h := by
            unfold rnS runS rst
            rw [if_pos c0, if_pos c0]
            rfl
          refine ⟨h, ?_, σ4, w, e4, g1, g3, fun _ => by rw [g2, sm_iz]; rfl, c', by rw [← e1]; exact g4, by rw [← e1]; exact bd⟩
          have hg := hL.2.1
          unfold Hg at hg ⊢
          unfold runS
          rw [if_pos c0]
          exact hg
        · have e1 : rnS (frm s.1) (rst s h) v B' = rst (runS (frm s.1) s v A') (B', upU h.1 h.2.1, []) := by
            unfold rnS runS rst upU
            rw [if_neg c0]
            rfl
          refine ⟨(B', upU h.1 h.2.1, []), hg_new hL.2.1 hG' hT' ?_ ?_, σ4, w, e4, g1, g3, fun _ => by rw [g2, sm_iz]; rfl, c', by rw [← e1]; exact g4, by rw [← e1]; exact bd⟩
          · unfold runS
            rw [if_neg c0]
            rfl
          · unfold runS
            rw [if_neg c0]
            rfl
end
