/-! ===== the class' line at work ===== -/
theorem ca_b (st : Nat) (p q : Qv) : ca st p q ≤ 8 := by
  unfold ca
  repeat' split
  all_goals omega
theorem wrk_c {nv : Nat → Option Qv} {fb : Nat → Option (List It)} : ∀ {n : Nat} {stk : List Qv} {l : List It} {fs : Frs} {pl : Nat} {sts : Sts} {r : Rs}, wrk nv fb n stk l fs pl sts = some r → r.1 ≤ 8 := by
  intro n
  induction n with
  | zero => intro stk l fs pl sts r h; simp [wrk] at h
  | succ n ih =>
    intro stk l fs pl sts r h
    cases l with
    | nil =>
      cases fs with
      | nil =>
        simp only [wrk] at h
        cases hs : stk[0]? with
        | none => rw [hs] at h; cases h
        | some q => rw [hs] at h; cases h; exact Nat.zero_le _
      | cons f fs =>
        obtain ⟨f1, f2⟩ := f
        simp only [wrk] at h
        cases hs : stk[stk.length - 1]? with
        | none => rw [hs] at h; cases h
        | some v =>
          rw [hs] at h
          simp only [Option.bind_some] at h
          split at h
          · cases h; exact Nat.le_refl _
          · split at h
            · cases h
            · exact ih h
    | cons it l =>
      unfold wrk at h
      split at h
      · cases h
      · split at h
        · split at h
          · cases h
          · obtain ⟨b, _, h2⟩ := Option.bind_eq_some_iff.mp h
            exact ih h2
        · split at h
          · exact ih h
          · split at h
            · obtain ⟨b, _, h2⟩ := Option.bind_eq_some_iff.mp h
              exact ih h2
            · split at h
              · split at h
                · cases h
                · obtain ⟨b, _, h2⟩ := Option.bind_eq_some_iff.mp h
                  exact ih h2
              · split at h
                · cases h
                · obtain ⟨a, _, h2⟩ := Option.bind_eq_some_iff.mp h
                  obtain ⟨b, _, h3⟩ := Option.bind_eq_some_iff.mp h2
                  split at h3
                  · cases h3; exact Nat.le_refl _
                  · split at h3
                    · cases h3; exact ca_b _ _ _
                    · split at h3
                      · cases h3; show 7 ≤ 8; omega
                      · exact ih h3
/-- the steps that are kept, and those to spare -/
def KSp (σ : St) (x o : Nat) : Prop := oS o ∧ sF σ (fid 15 11) x = x + (25 - o) ∧ sF σ (fid 15 12) x = x + o
theorem KSp.f {σ : St} {x o : Nat} (h : KSp σ x o) (hx : XS σ x) : gF σ 15 11 x = some (x + (25 - o)) ∧ gF σ 15 12 x = some (x + o) := by
  have k0 : sK σ x = 15 + 1 := hx.kd 0 16 (by decide)
  exact ⟨(sm_gF k0).trans (congrArg some h.2.1), (sm_gF k0).trans (congrArg some h.2.2)⟩
def sW (σ : St) (x o r : Nat) : Prop := sM σ x o r ∨ r = x
theorem cx_isRefusedAtWork {x now form w wp np o n : Nat} {H : List As} {A : As} {l : List It} {r : Rs} {σ : St} (hp0 : HP (PX x) σ) (hx : XS σ x) (hQ : SQ σ x) (hH : KHis σ x now H) (hA : H[now]? = some A) (hL : Ln σ x form w wp np l) (ho : KSp σ x o) (h2 : form ≠ 2)
    (hbd : ∀ e ∈ A.2.1, ∀ it ∈ e.2.2, OkI A.2.1 it) (hok : ∀ it ∈ l, OkI A.2.1 it) (hh : hts l 0 = some 1) (hn : n ≤ 1000000) (hw : wrk (nvl A.1) (fbd A.2.1) n [] l [] 0 [] = some r) :
    Hx (fX11_isRefusedAtWork σ x) (fun σ' v => cM x (sW σ x o) 0 0 σ σ' ∧ SQ σ' x ∧ (r.1 = 0 → v = nI 0 ∧ xI [] x σ σ' ∧ FX σ' (x + 80) r.2.2.1.1 r.2.2.1.2.1 r.2.2.1.2.2 ∧ qok r.2.2.1 ∧ StS σ' x o r.2.2.2) ∧ (r.1 ≠ 0 → v = nI 1 ∧ xI rfL x σ σ' ∧ KRef σ' x r.1 r.2.1 (-1) [])) := by
  have hoo := ho.1
  have ho2 : o = 11 ∨ o = 14 := hoo
  obtain ⟨l1, l2, l3, l4, l5, l6⟩ := hL.f hx
  obtain ⟨s1', s2'⟩ := ho.f hx
  have k0 : sK σ x = 16 := hx.kd 0 16 (by decide)
  obtain ⟨⟨_, q1⟩, ⟨_, q2⟩, ⟨_, q3⟩, ⟨_, q4⟩, q5⟩ := id hL
  obtain ⟨⟨ko, _⟩, _⟩ := hx.o hoo
  have hF1 := cWi (a := x + o) (f := fid 12 2) (v := nI 0) hp0 (by omega) (by omega)
  have hx1 := hx.kW hF1
  have hQ1 := hQ.st hF1 hx (fun r hr => by have : r = x + o := hr; omega)
  have hM1 := hF1.toM hx (fun T hT hs => by have : x + T = x + o := hs; rcases hT with g | g | g <;> omega)
  have hB1 := hM1.toB (fun r _ hr => Or.inl (by have : r = x + o := hr; omega))
  have hL1 := hL.kW hF1 hx hB1 hQ (fun h => by have : x + 65 = x + o := h; omega)
  have hH1 := hH.kW hF1 hx hB1 hQ (fun h => by have : x = x + o := h; omega) (fun h => by have : x + 17 = x + o := h; omega)
  have hS1 : StS (wI σ (fid 12 2) (x + o) (nI 0)) x o [] := Or.inr ⟨hoo, sI_wI_eq, fun j s h => by cases h⟩
  have hI1 : xI [] x σ (wI σ (fid 12 2) (x + o) (nI 0)) := xI.of hF1 hx (fun h => by have : x = x + o := h; omega)
  have hKS1 : KSp (wI σ (fid 12 2) (x + o) (nI 0)) x o := ⟨hoo, ho.2.1, ho.2.2⟩
  rw [n_fX11_isRefusedAtWork, l1]
  refine hx_bs ?_
  rw [l2]
  refine hx_bs (Hx.ce (sm_eq (by omega) (by omega)) (fun c => absurd c h2) (fun _ => ?_))
  rw [s2']
  refine hx_bs ?_
  rw [sm_pI (ci := 12) (k := 2) (show sK σ (x + o) = 12 + 1 from ko)]
  refine hx_bs ?_
  generalize wI σ (fid 12 2) (x + o) (nI 0) = σ1 at *
  obtain ⟨pr, hS⟩ := hH1.present hx1 hA
  obtain ⟨b, ra, f0, f1, _, _, _, ⟨⟨na, fa, hB⟩, hU⟩, _⟩ := hS.f
  obtain ⟨m1, m2, m3, m4, m5, m6⟩ := hL1.f hx1
  have k01 : sK σ1 x = 16 := hx1.kd 0 16 (by decide)
  rw [show gF σ1 15 18 x = some (x + 75) from hx1.gf 15 18 0 75 (by decide) (by decide)]
  refine hx_bs ?_
  rw [m1]
  refine hx_bs ?_
  rw [m6]
  refine hx_bs ?_
  rw [sm_ckK k01]
  refine hx_bs ?_
  rw [pr]
  refine hx_cs ?_
  rw [f0]
  refine hx_bs ?_
  rw [(hKS1.f hx1).2]
  refine hx_bs ?_
  rw [show gF σ1 15 16 x = some (x + 18) from hx1.gf 15 16 0 18 (by decide) (by decide)]
  refine hx_bs ?_
  rw [hx1.ck 75 7 (by decide)]
  refine hx_bs ?_
  have e0 : x + o = ntd x o := by unfold ntd; rw [if_neg (by omega)]
  rw [e0]
  refine Hx.bd (cm_work (Or.inr hoo) hbd hF1.hp hx1 hQ1 hB hL1.2.2.2.2 hok hh hS1 hn hw) (fun σ2 v h => ?_)
  obtain ⟨rfl, hM2, hQ2, hP, hR⟩ := h
  have hMM : cM x (sM σ x o) 0 0 σ σ2 := (hM1.mo (S' := sM σ x o) (fun r _ hr => by
    have : r = x + o := hr
    exact Or.inr (Or.inr (Or.inr ⟨by omega, Or.inl (by omega)⟩))) (Nat.le_refl _) (Nat.le_refl _)).tr0 hM2 (fun r hr hs => sM.up (Or.inr hoo) hM1.2 hr hs)
  have hx2 := hMM.xs hx
  have hI2 : xI [] x σ1 σ2 := by
    obtain ⟨k0', c0', hW⟩ := hM2.w
    refine xI.of hW hx1 ?_
    rintro (h | h | ⟨i, g0, g⟩ | ⟨_, h | ⟨i, g0, g⟩⟩)
    · omega
    · omega
    · have := (hQ1.1 76 i (Or.inl rfl) g0).1
      omega
    · omega
    · have := (hQ1.1 (o + 2) i hoo.t g0).1
      omega
  have hb := wrk_c hw
  refine Hx.ce (sm_eq (by omega) (by omega)) (fun c => ?_) (fun c => ?_)
  · rw [n_fX11_isRefusedAtWork_67, c, if_pos rfl]
    obtain ⟨r1, r2, r3⟩ := hR c
    exact Hx.ret ⟨hMM.mo (fun r _ hr => Or.inl hr) (Nat.le_refl _) (Nat.le_refl _), hQ2, fun _ => ⟨rfl, hI1.tr hI2 (fun f h => h) (fun f h => h), r1, r2, r3⟩, fun h => absurd rfl h⟩
  · have k02 : sK σ2 x = 16 := hx2.kd 0 16 (by decide)
    have k75 : sK σ2 (x + 75) = 6 + 1 := hx2.kd 75 7 (by decide)
    rw [show gF σ2 15 18 x = some (x + 75) from hx2.gf 15 18 0 75 (by decide) (by decide)]
    refine hx_bs ?_
    rw [(sm_gI k75).trans (congrArg some (hP c))]
    refine hx_bs ?_
    rw [sm_ckK k02]
    refine hx_bs ?_
    refine Hx.bd (cx_refuse hMM.hp hx2) (fun σ3 _ h => ?_)
    obtain ⟨g1, g2, g3, g4, g5, g6⟩ := h
    rw [n_fX11_isRefusedAtWork_67, if_neg (by rw [sm_eq (by omega) (by omega)]; exact c)]
    have g1M := g1.toM hx2 (fun T hT hs => by have : x + T = x := hs; rcases hT with g | g | g <;> omega)
    refine Hx.ret ⟨(hMM.mo (S' := sW σ x o) (fun r _ hr => Or.inl hr) (Nat.le_refl _) (Nat.le_refl _)).tr0 g1M (fun r _ hr => Or.inr hr), hQ2.st g1 hx2 (fun r hr => by have : r = x := hr; omega), fun h => absurd h c, fun _ => ⟨rfl, (hI1.tr (L := []) hI2 (fun f h => h) (fun f h => h)).tr g2 (fun f h => by cases h) (fun f h => h), ?_, ?_, g5, g6, by show 0 ≤ 30; omega, fun i z hz => by cases hz⟩⟩
    · rw [g3, sm_iz]
    · rw [g4, sm_iz]
