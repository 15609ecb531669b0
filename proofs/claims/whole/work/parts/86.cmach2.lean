/-! ===== the class' Machine: its steps ===== -/
/-- what lies around: the book, the levels -/
def AF (σ : St) (x b na fa : Nat) (ns : List NE) (fs : List FE) (fr : Frs) (cur : List It) : Prop := (HP (PX x) σ ∧ XS σ x ∧ SQ σ x) ∧ KBk σ x b na fa ns fs ∧ Lv σ x fr.length cur ∧ FrC σ x fr
theorem AF.kp {x b na fa k c : Nat} {ns : List NE} {fs : List FE} {fr : Frs} {cur : List It} {S : Nat → Prop} {σ σ' : St} (h : AF σ x b na fa ns fs fr cur) (hF : cM x S k c σ σ') (hQ' : SQ σ' x) (hS : ∀ r, r < sz σ → S r → muS σ x r) (h7 : ¬ S (x + 77) ∧ ¬ S (x + 78) ∧ ¬ S (x + 79)) : AF σ' x b na fa ns fs fr cur := by
  obtain ⟨⟨g1, g2, g3⟩, g4, g5, g6⟩ := h
  obtain ⟨k0, c0, hW⟩ := hF.w
  have hB := hF.toB hS
  obtain ⟨e1, e2⟩ := hW.lvs g2 h7
  exact ⟨⟨hF.hp, hF.xs g2, hQ'⟩, g4.kB hB g3, g5.kp hB g3 (e1 _).1 (e1 _).2, FrC.kp hB g3 g6 (fun lv _ => e1 lv) (fun lv _ => e2 lv)⟩
theorem cm_pushB {x b na fa o v h L D : Nat} {ns : List NE} {fs : List FE} {fr : Frs} {cur : List It} {stk : List Qv} {sts : Sts} {q : Qv} {P : Int32} {σ : St} (ho : oO o) (hA : AF σ x b na fa ns fs fr cur) (hI : MIs σ x h L D) (hM : Mst σ x stk) (hsl : stk.length = h) (hh : h < 1000) (hV : FX σ v q.1 q.2.1 q.2.2) (hq : qok q) (hv0 : v = x + 80 ∨ x + 84 < v ∨ v = x + 3) (hvn : sQ σ (x + 76) h ≠ v) (hS : StS σ x o sts) (hpl : sI σ (fid 6 7) (x + 75) = P) :
    Hx (fX2_push σ (x + 75) v) (fun σ' r => r = nI 0 ∧ cM x (sM σ x o) 0 0 σ σ' ∧ AF σ' x b na fa ns fs fr cur ∧ MIs σ' x (h + 1) L D ∧ Mst σ' x (stk ++ [q]) ∧ FX σ' (x + 80) q.1 q.2.1 q.2.2 ∧ StS σ' x o sts ∧ sI σ' (fid 6 7) (x + 75) = P) := by
  obtain ⟨hp, hx, hQ⟩ := hA.1
  refine Hx.mo (cm_push hp hx hQ hI.1 hh hV hq hv0 hvn) (fun σ' r hh' => ?_)
  obtain ⟨g1, g2, g3, g4, ⟨g5, g6⟩, g7, g8, g9⟩ := hh'
  have hS1 : ∀ r, sP σ x h r → r ≤ x + 84 ∨ fc (sQ σ (x + 76) h) r := fun r hr => by
    rcases hr with hr | hr | hr
    · exact Or.inl (by omega)
    · exact Or.inl (by omega)
    · exact Or.inr hr
  have hlow : ∀ r, r ≤ x + 84 → sP σ x h r → (x + 75 ≤ r ∧ r ≤ x + 76) ∨ (x + 80 ≤ r ∧ r ≤ x + 83) := fun r hr hs => by
    rcases hs with hs | hs | ⟨h0, hs⟩
    · exact Or.inl hs
    · exact Or.inr hs
    · have := (hQ.1 76 h (Or.inl rfl) h0).1
      omega
  refine ⟨g1, g2.mo (fun r _ hr => ?_) (Nat.le_refl _) (Nat.le_refl _), hA.kp g2 g3 (fun r _ hr => ?_) ⟨fun q => ?_, fun q => ?_, fun q => ?_⟩, ⟨g4, by rw [g9 5 (by omega)]; exact hI.2.1, by rw [g9 6 (by omega)]; exact hI.2.2⟩, (hM.kp hQ g2 (Or.inl rfl : tMu 76) hS1 (fun _ => by omega)).app (by rw [hsl]; exact g5) (by rw [hsl]; exact g6) hq, g7, hS.kp hx hQ g2 (Or.inl rfl : tMu 76) hS1 (fun e => ?_) (fun hoS => ⟨fun q => ?_, fun q => ?_⟩), by rw [g9 7 (by omega)]; exact hpl⟩
  · rcases hr with hr | hr | hr
    · exact Or.inr (Or.inl (by omega))
    · exact Or.inr (Or.inl (by omega))
    · exact Or.inr (Or.inr (Or.inl ⟨h, hr⟩))
  · rcases hr with hr | hr | hr
    · exact Or.inl (by omega)
    · exact Or.inl (by omega)
    · exact Or.inr (Or.inl ⟨76, h, Or.inl rfl, hr⟩)
  · have := hlow _ (by omega) q; omega
  · have := hlow _ (by omega) q; omega
  · have := hlow _ (by omega) q; omega
  · rcases ho with rfl | ho <;> (try unfold oS at ho) <;> omega
  · unfold oS at hoS; have := hlow _ (by omega) q; omega
  · unfold oS at hoS; have := hlow _ (by omega) q; omega
theorem cWm {x k : Nat} {v : Int32} {σ : St} (hp : HP (PX x) σ) (hx : XS σ x) : cW x (s1 (x + 75)) 0 0 σ (wI σ (fid 6 k) (x + 75) v) := by
  have k75 : sK σ (x + 75) = 7 := hx.kd 75 7 (by decide)
  exact cWi hp (by omega) (by omega)
theorem s75M {x : Nat} : ∀ T, tMu T → ¬ s1 (x + 75) (x + T) := fun T hT => by
  simp only [s1]
  rcases hT with rfl | rfl | rfl <;> omega
/-- an int of the machine is set -/
theorem AF.wi {x b na fa k : Nat} {ns : List NE} {fs : List FE} {fr : Frs} {cur : List It} {v : Int32} {σ : St} (h : AF σ x b na fa ns fs fr cur) : AF (wI σ (fid 6 k) (x + 75) v) x b na fa ns fs fr cur := by
  obtain ⟨hp, hx, hQ⟩ := h.1
  have hF := cWm (k := k) (v := v) hp hx
  exact h.kp (hF.toM hx s75M) (hQ.st hF hx (fun r hr => by simp only [s1] at hr; omega)) (fun r _ hr => Or.inl (by simp only [s1] at hr; omega)) ⟨by simp only [s1]; omega, by simp only [s1]; omega, by simp only [s1]; omega⟩
theorem Mst.wi {x k : Nat} {stk : List Qv} {v : Int32} {σ : St} (h : Mst σ x stk) (hp : HP (PX x) σ) (hx : XS σ x) (hQ : SQ σ x) : Mst (wI σ (fid 6 k) (x + 75) v) x stk :=
  h.kp hQ ((cWm (k := k) (v := v) hp hx).toM hx s75M) (Or.inr (Or.inl rfl) : tMu 13) (h := 0) (fun r hr => Or.inl (by simp only [s1] at hr; omega)) (fun e => absurd e (by omega))
theorem StS.wi {x o k : Nat} {sts : Sts} {v : Int32} {σ : St} (h : StS σ x o sts) (hp : HP (PX x) σ) (hx : XS σ x) (hQ : SQ σ x) : StS (wI σ (fid 6 k) (x + 75) v) x o sts := by
  rcases h with h | ⟨h0, h1, h2⟩
  · exact Or.inl h
  · have hF := cWm (k := k) (v := v) hp hx
    refine StS.kp (Or.inr ⟨h0, h1, h2⟩) hx hQ (hF.toM hx s75M) (Or.inl rfl : tMu 76) (h := 1000) (fun r hr => Or.inl (by simp only [s1] at hr; omega)) (fun e => ?_) (fun hoS => ⟨?_, ?_⟩)
    · unfold oS at h0; omega
    · unfold oS at h0; simp only [s1]; omega
    · unfold oS at h0; simp only [s1]; omega
/-- a step ends -/
theorem cm_finish {x b na fa o h h' L used st : Nat} {ns : List NE} {fs : List FE} {fr : Frs} {cur : List It} {stk : List Qv} {sts : Sts} {q : Qv} {P : Int32} {σ : St} (ho : oO o) (hA : AF σ x b na fa ns fs fr cur) (hI : MIs σ x h L sts.length) (hM : Mst σ x stk) (hsl : stk.length = h') (hu : h' + used = h) (hh : h ≤ 1000) (hh' : h' < 1000) (hG : FX σ (x + 80) q.1 q.2.1 q.2.2) (hq : qok q) (hS : StS σ x o sts) (hD : sts.length < 200) (hpl : sI σ (fid 6 7) (x + 75) = P) :
    Hx (fX2_finish σ (x + 75) (nI st) (nI used) (ntd x o)) (fun σ' r => r = nI 0 ∧ cM x (sM σ x o) 0 0 σ σ' ∧ AF σ' x b na fa ns fs fr cur ∧ MIs σ' x (h' + 1) L (sts.length + 1) ∧ Mst σ' x (stk ++ [q]) ∧ FX σ' (x + 80) q.1 q.2.1 q.2.2 ∧ StS σ' x o (sts ++ [(st, q)]) ∧ sI σ' (fid 6 7) (x + 75) = P) := by
  obtain ⟨hp, hx, hQ⟩ := hA.1
  -- the end
  have hend : ∀ τ : St, cM x (sM σ x o) 0 0 σ τ → AF τ x b na fa ns fs fr cur → MIs τ x h L (sts.length + 1) → Mst τ x stk → FX τ (x + 80) q.1 q.2.1 q.2.2 → StS τ x o (sts ++ [(st, q)]) → sI τ (fid 6 7) (x + 75) = P →
      Hx (fX2_finish_23 τ (x + 75) (nI used)) (fun σ' r => r = nI 0 ∧ cM x (sM σ x o) 0 0 σ σ' ∧ AF σ' x b na fa ns fs fr cur ∧ MIs σ' x (h' + 1) L (sts.length + 1) ∧ Mst σ' x (stk ++ [q]) ∧ FX σ' (x + 80) q.1 q.2.1 q.2.2 ∧ StS σ' x o (sts ++ [(st, q)]) ∧ sI σ' (fid 6 7) (x + 75) = P) := by
    intro τ hFτ hA hI hM hG hS hpl
    obtain ⟨hp, hx, hQ⟩ := hA.1
    have hF := cWm (k := 1) (v := nI h') hp hx
    have hA1 := hA.wi (k := 1) (v := nI h')
    have hM1 := hM.wi (k := 1) (v := nI h') hp hx hQ
    have hS1 := hS.wi (k := 1) (v := nI h') hp hx hQ
    have hG1 := hG.kW hF ⟨by simp only [s1]; omega, by simp only [s1]; omega, by simp only [s1]; omega⟩
    have hI1 : MIs (wI τ (fid 6 1) (x + 75) (nI h')) x h' L (sts.length + 1) := ⟨sI_wI_eq, (sI_wI_f (by decide)).trans hI.2.1, (sI_wI_f (by decide)).trans hI.2.2⟩
    have hpl1 : sI (wI τ (fid 6 1) (x + 75) (nI h')) (fid 6 7) (x + 75) = P := (sI_wI_f (by decide)).trans hpl
    have hFM := hF.toM hx s75M
    rw [n_fX2_finish_23, mI hx 1, hI.1]
    refine hx_bs ?_
    rw [sm_sub (by omega), show h - used = h' by omega, mP hx]
    refine hx_bs ?_
    generalize wI τ (fid 6 1) (x + 75) (nI h') = τ1 at *
    obtain ⟨hp1, hx1, hQ1⟩ := hA1.1
    rw [xf_6_8 hx1]
    refine hx_bs ?_
    rw [xk_75 hx1]
    refine hx_bs ?_
    have hn80 : sQ τ1 (x + 76) h' ≠ x + 80 := by
      intro e
      have := (hQ1.1 76 h' (Or.inl rfl) (by omega)).1
      omega
    refine Hx.bd (cm_pushB ho hA1 hI1 hM1 hsl hh' hG1 hq (Or.inl rfl) hn80 hS1 hpl1) (fun σ2 v2 h2 => ?_)
    obtain ⟨e1, e2, e3⟩ := h2
    subst e1
    refine Hx.ret ⟨rfl, ?_, e3⟩
    exact (hFτ.tr0 hFM (fun r _ hr => Or.inr (Or.inl (by simp only [s1] at hr; omega)))).tr0 e2 (fun r hr hs => sM.up ho ((hFτ.tr0 hFM (fun r _ hr => Or.inr (Or.inl (by simp only [s1] at hr; omega)))).aE) hr hs)
  have hF := cWm (k := 6) (v := nI (sts.length + 1)) hp hx
  have hA1 := hA.wi (k := 6) (v := nI (sts.length + 1))
  have hM1 := hM.wi (k := 6) (v := nI (sts.length + 1)) hp hx hQ
  have hS1 := hS.wi (k := 6) (v := nI (sts.length + 1)) hp hx hQ
  have hG1 := hG.kW hF ⟨by simp only [s1]; omega, by simp only [s1]; omega, by simp only [s1]; omega⟩
  have hI1 : MIs (wI σ (fid 6 6) (x + 75) (nI (sts.length + 1))) x h L (sts.length + 1) := ⟨(sI_wI_f (by decide)).trans hI.1, (sI_wI_f (by decide)).trans hI.2.1, sI_wI_eq⟩
  have hpl1 : sI (wI σ (fid 6 6) (x + 75) (nI (sts.length + 1))) (fid 6 7) (x + 75) = P := (sI_wI_f (by decide)).trans hpl
  have hFM := hF.toM hx s75M
  have hFM' := hFM.mo (S' := sM σ x o) (fun r _ hr => Or.inr (Or.inl (by simp only [s1] at hr; omega))) (Nat.le_refl _) (Nat.le_refl _)
  rw [n_fX2_finish, mI hx 6, hI.2.2]
  refine hx_bs ?_
  rw [sm_add, mP hx]
  refine hx_bs ?_
  generalize wI σ (fid 6 6) (x + 75) (nI (sts.length + 1)) = σ1 at *
  refine Hx.cs (fun c => ?_) (fun c => ?_)
  · have ho0 : o = 0 := by
      unfold ntd at c
      split at c
      · assumption
      · omega
    subst ho0
    exact hend σ1 hFM' hA1 hI1 hM1 hG1 (Or.inl rfl) hpl1
  · have ho0 : oS o := by
      rcases ho with rfl | ho
      · exact absurd rfl c
      · exact ho
    have eo : ntd x o = x + o := by
      unfold ntd
      rw [if_neg]
      unfold oS at ho0; omega
    obtain ⟨hp1, hx1, hQ1⟩ := hA1.1
    rw [eo, xf_6_8 hx1]
    refine hx_bs ?_
    obtain ⟨⟨k1, k2, k3, k4, k5⟩, _⟩ := hx1.o ho0
    rw [show ckK σ1 13 (x + o) = some () from sm_ckK k1]
    refine hx_bs ?_
    rcases hS1 with hS1 | ⟨_, hl, hs⟩
    · unfold oS at ho0; omega
    refine Hx.bd (cm_note hp1 hx1 hQ1 ho0 hl hD hG1 hq) (fun σ2 _ h2 => ?_)
    obtain ⟨g1, g2, g3, ⟨g4, g5⟩, g6, g7, g8⟩ := h2
    have hlow : ∀ r, r ≤ x + 84 → sN2 σ1 x o sts.length r → (x + o ≤ r ∧ r ≤ x + o + 2) := fun r hr hs => by
      rcases hs with hs | ⟨h0, hs⟩
      · exact hs
      · have := (hQ1.1 (o + 2) sts.length ho0.t h0).1
        omega
    have hS2 : ∀ r, sN2 σ1 x o sts.length r → r ≤ x + 84 ∨ fc (sQ σ1 (x + (o + 2)) sts.length) r := fun r hr => by
      rcases hr with hr | hr
      · unfold oS at ho0; exact Or.inl (by omega)
      · exact Or.inr hr
    obtain ⟨k0, c0, hW2⟩ := g1.w
    have ho9 : o = 11 ∨ o = 14 := ho0
    have hm := hW2.mis hx1 (fun q => by have := hlow _ (by omega) q; omega)
    have hA2 := hA1.kp g1 g2 (fun r _ hr => by
      rcases hr with hr | hr
      · exact Or.inl (by omega)
      · exact Or.inr (Or.inl ⟨o + 2, _, ho0.t, hr⟩)) ⟨fun q => by have := hlow _ (by omega) q; omega, fun q => by have := hlow _ (by omega) q; omega, fun q => by have := hlow _ (by omega) q; omega⟩
    have hM2 := hM1.kp hQ1 g1 ho0.t hS2 (fun e => by omega)
    have hG2 := hG1.kW hW2 ⟨fun q => by have := hlow _ (by omega) q; omega, fun q => by have := hlow _ (by omega) q; omega, fun q => by have := hlow _ (by omega) q; omega⟩
    refine hend σ2 (hFM'.tr0 g1 (fun r hr hs => ?_)) hA2 ⟨by rw [hm]; exact hI1.1, by rw [hm]; exact hI1.2.1, by rw [hm]; exact hI1.2.2⟩ hM2 hG2 (Or.inr ⟨ho0, by rw [List.length_append, List.length_singleton]; exact g3, fun j s hj => ?_⟩) (by rw [hm]; exact hpl1)
    · refine sM.up ho hFM'.aE hr ?_
      rcases hs with hs | hs
      · exact Or.inr (Or.inr (Or.inr ⟨by omega, Or.inl hs⟩))
      · exact Or.inr (Or.inr (Or.inr ⟨by omega, Or.inr ⟨_, hs⟩⟩))
    · by_cases c9 : j < sts.length
      · rw [List.getElem?_append_left c9] at hj
        obtain ⟨w1, w2, w3, w4⟩ := hs j s hj
        rw [g7 j (by omega), g8 (o + 2) ho0.t j (fun q => by omega)]
        exact ⟨w1, w2, hQ1.kp ho0.t w2 w3 hW2 ho0.t hS2 (fun q => by omega), w4⟩
      · have hl := (List.getElem?_eq_some_iff.mp hj).1
        rw [List.length_append, List.length_singleton] at hl
        obtain rfl : j = sts.length := by omega
        rw [List.getElem?_append_right (Nat.le_refl _), Nat.sub_self] at hj
        cases hj
        exact ⟨g6, g4, g5, hq⟩
