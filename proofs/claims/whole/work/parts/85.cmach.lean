/-! ===== the class' Machine: its picture ===== -/
/-- with how many values an item is worked -/
noncomputable def ari (it : It) : Nat := if it.1 = 30 ∨ it.1 = 31 ∨ it.1 = 32 then 0 else if it.1 = 33 ∧ known it.2.1 = 0 then it.2.2.1 else arity (stp it)
/-- how high the stack is behind a sum -/
noncomputable def hts : List It → Nat → Option Nat
  | [], h => some h
  | it :: r, h => if h < ari it then none else hts r (h - ari it + 1)
/-- the stack's fractions -/
def Mst (σ : St) (x : Nat) (stk : List Qv) : Prop := ∀ j q, stk[j]? = some q → sQ σ (x + 76) j ≠ 0 ∧ FX σ (sQ σ (x + 76) j) q.1 q.2.1 q.2.2 ∧ qok q
/-- a level: what is left of its sum -/
def Lv (σ : St) (x lv : Nat) (cur : List It) : Prop := ∃ k l, KSum σ x (sQ σ (x + 77) lv) l ∧ sA σ (x + 78) lv = nI k ∧ k ≤ l.length ∧ l.drop k = cur
def FrC (σ : St) (x : Nat) : Frs → Prop
  | [] => True
  | (r, bt) :: fs => Lv σ x fs.length r ∧ (sA σ (x + 79) (fs.length + 1) = nI bt ∧ bt ≤ 1000 ∧ fs.length + 1 ≤ 10) ∧ FrC σ x fs
/-- the steps that are noted -/
def StS (σ : St) (x o : Nat) (sts : Sts) : Prop := o = 0 ∨ oS o ∧ sI σ (fid 12 2) (x + o) = nI sts.length ∧ ∀ j s, sts[j]? = some s → sA σ (x + (o + 1)) j = nI s.1 ∧ sQ σ (x + (o + 2)) j ≠ 0 ∧ FX σ (sQ σ (x + (o + 2)) j) s.2.1 s.2.2.1 s.2.2.2 ∧ qok s.2
/-- at the end one value is left -/
def Fin (cur : List It) (fr : Frs) (h : Nat) : Prop := match fr.getLast? with
  | none => hts cur h = some 1
  | some (r, bt) => hts r (bt + 1) = some 1
def ntd (x o : Nat) : Nat := if o = 0 then 0 else x + o
def MIs (σ : St) (x h L D : Nat) : Prop := sI σ (fid 6 1) (x + 75) = nI h ∧ sI σ (fid 6 5) (x + 75) = nI L ∧ sI σ (fid 6 6) (x + 75) = nI D
def oO (o : Nat) : Prop := o = 0 ∨ oS o
/-- what work() writes -/
def sM (σ : St) (x o r : Nat) : Prop := (x + 19 ≤ r ∧ r ≤ x + 48) ∨ (x + 75 ≤ r ∧ r ≤ x + 83) ∨ (∃ i, fc (sQ σ (x + 76) i) r) ∨ o ≠ 0 ∧ ((x + o ≤ r ∧ r ≤ x + o + 2) ∨ ∃ i, fc (sQ σ (x + (o + 2)) i) r)
theorem sM.up {x o r : Nat} {σ σ1 : St} (ho : oO o) (h1 : aE x σ σ1) (hr : r < sz σ) (h : sM σ1 x o r) : sM σ x o r := by
  rcases h with h | h | ⟨i, h0, h⟩ | ⟨h9, h | ⟨i, h0, h⟩⟩
  · exact Or.inl h
  · exact Or.inr (Or.inl h)
  · rcases h1 76 i (Or.inl rfl) with e | ⟨e1, e2⟩
    · rw [e] at h0 h
      exact Or.inr (Or.inr (Or.inl ⟨i, h0, h⟩))
    · exfalso; omega
  · exact Or.inr (Or.inr (Or.inr ⟨h9, Or.inl h⟩))
  · rcases h1 (o + 2) i (by rcases ho with rfl | ho; exact absurd rfl h9; exact ho.t) with e | ⟨e1, e2⟩
    · rw [e] at h0 h
      exact Or.inr (Or.inr (Or.inr ⟨h9, Or.inr ⟨i, h0, h⟩⟩))
    · exfalso; omega
theorem sM.mu {x o r : Nat} {σ : St} (ho : oO o) (h : sM σ x o r) : muS σ x r := by
  rcases h with h | h | ⟨i, h0, h⟩ | ⟨h9, h | ⟨i, h0, h⟩⟩
  · exact Or.inl (by omega)
  · exact Or.inl (by omega)
  · exact Or.inr (Or.inl ⟨76, i, Or.inl rfl, h0, h⟩)
  · rcases ho with rfl | ho
    · exact absurd rfl h9
    · unfold oS at ho
      exact Or.inl (by omega)
  · rcases ho with rfl | ho
    · exact absurd rfl h9
    · exact Or.inr (Or.inl ⟨o + 2, i, ho.t, h0, h⟩)
/-- a fraction of a row that isn't the one written is kept -/
theorem SQ.kp {x T i T0 h k c n d : Nat} {s : Int} {S : Nat → Prop} {σ σ' : St} (hQ : SQ σ x) (hT : tMu T) (h0 : sQ σ (x + T) i ≠ 0) (hX : FX σ (sQ σ (x + T) i) s n d) (hF : cW x S k c σ σ') (hT0 : tMu T0) (hS : ∀ r, S r → r ≤ x + 84 ∨ fc (sQ σ (x + T0) h) r) (hne : ¬ (T = T0 ∧ i = h)) : FX σ' (sQ σ (x + T) i) s n d := by
  have hl := (hQ.1 T i hT h0).1
  have key : ∀ r, (r = sQ σ (x + T) i ∨ r = sQ σ (x + T) i + 1 ∨ r = sQ σ (x + T) i + 3) → ¬ S r := by
    intro r hr hs
    rcases hS r hs with g | ⟨g0, g⟩
    · omega
    · have := hQ.off hT hT0 h0 g0 hne
      omega
  exact hX.kW hF ⟨key _ (Or.inl rfl), key _ (Or.inr (Or.inl rfl)), key _ (Or.inr (Or.inr rfl))⟩
theorem cM.aE {x k c : Nat} {S : Nat → Prop} {σ σ' : St} (h : cM x S k c σ σ') : aE x σ σ' := h.2
/-- steps that only write static cells, or one fraction of a row -/
theorem Mst.kp {x T0 h k c : Nat} {stk : List Qv} {S : Nat → Prop} {σ σ' : St} (hM : Mst σ x stk) (hQ : SQ σ x) (hF : cM x S k c σ σ') (hT0 : tMu T0) (hS : ∀ r, S r → r ≤ x + 84 ∨ fc (sQ σ (x + T0) h) r) (hne : T0 = 76 → stk.length ≤ h) : Mst σ' x stk := by
  obtain ⟨k0, c0, hW⟩ := hF.w
  intro j q hj
  obtain ⟨g1, g2, g3⟩ := hM j q hj
  have hjl := (List.getElem?_eq_some_iff.mp hj).1
  have e : sQ σ' (x + 76) j = sQ σ (x + 76) j := by
    rcases hF.aE 76 j (Or.inl rfl) with e | ⟨e, _⟩
    · exact e
    · exact absurd e g1
  rw [e]
  exact ⟨g1, hQ.kp (Or.inl rfl) g1 g2 hW hT0 hS (fun q => by have := hne q.1.symm; omega), g3⟩
theorem Mst.take {σ : St} {x n : Nat} {stk : List Qv} (h : Mst σ x stk) : Mst σ x (stk.take n) := fun j q hj => by
  rw [List.getElem?_take] at hj
  split at hj
  · exact h j q hj
  · cases hj
theorem Mst.app {σ : St} {x : Nat} {stk : List Qv} {q : Qv} (h : Mst σ x stk) (h1 : sQ σ (x + 76) stk.length ≠ 0) (h2 : FX σ (sQ σ (x + 76) stk.length) q.1 q.2.1 q.2.2) (h3 : qok q) : Mst σ x (stk ++ [q]) := fun j q' hj => by
  by_cases c : j < stk.length
  · rw [List.getElem?_append_left c] at hj
    exact h j q' hj
  · have hl := (List.getElem?_eq_some_iff.mp hj).1
    rw [List.length_append, List.length_singleton] at hl
    obtain rfl : j = stk.length := by omega
    rw [List.getElem?_append_right (Nat.le_refl _), Nat.sub_self] at hj
    cases hj
    exact ⟨h1, h2, h3⟩
theorem StS.kp {x o T0 h k c : Nat} {sts : Sts} {S : Nat → Prop} {σ σ' : St} (hM : StS σ x o sts) (hx : XS σ x) (hQ : SQ σ x) (hF : cM x S k c σ σ') (hT0 : tMu T0) (hS : ∀ r, S r → r ≤ x + 84 ∨ fc (sQ σ (x + T0) h) r) (hne : T0 = o + 2 → sts.length ≤ h) (hSo : oS o → ¬ S (x + o) ∧ ¬ S (x + (o + 1))) : StS σ' x o sts := by
  rcases hM with h0 | ⟨ho, h1, h2⟩
  · exact Or.inl h0
  · obtain ⟨k0, c0, hW⟩ := hF.w
    obtain ⟨⟨k1, k2, k3, k4, k5⟩, _⟩ := hx.o ho
    obtain ⟨s1, s2⟩ := hSo ho
    refine Or.inr ⟨ho, by rw [(hW.sam (by rw [k1]; omega) (Or.inl (by rw [k1]; omega)) s1).1]; exact h1, fun j s hj => ?_⟩
    obtain ⟨g1, g2, g3, g4⟩ := h2 j s hj
    have hjl := (List.getElem?_eq_some_iff.mp hj).1
    have e : sQ σ' (x + (o + 2)) j = sQ σ (x + (o + 2)) j := by
      rcases hF.aE (o + 2) j ho.t with e | ⟨e, _⟩
      · exact e
      · exact absurd e g2
    rw [e]
    exact ⟨by rw [(hW.sam (by rw [k2]; omega) (Or.inr k5) s2).2.2.1]; exact g1, g2, hQ.kp ho.t g2 g3 hW hT0 hS (fun q => by have := hne q.1.symm; omega), g4⟩
/-- the levels are kept where their rows are -/
theorem Lv.kp {x lv : Nat} {cur : List It} {σ σ' : St} (h : Lv σ x lv cur) (hR : cB x σ σ') (hQ : SQ σ x) (h77 : sQ σ' (x + 77) lv = sQ σ (x + 77) lv) (h78 : sA σ' (x + 78) lv = sA σ (x + 78) lv) : Lv σ' x lv cur := by
  obtain ⟨k, l, h1, h2, h3, h4⟩ := h
  exact ⟨k, l, by rw [h77]; exact h1.kB hR hQ, by rw [h78]; exact h2, h3, h4⟩
theorem FrC.kp {x : Nat} {σ σ' : St} (hR : cB x σ σ') (hQ : SQ σ x) : ∀ {fr : Frs}, FrC σ x fr → (∀ lv, lv < fr.length → sQ σ' (x + 77) lv = sQ σ (x + 77) lv ∧ sA σ' (x + 78) lv = sA σ (x + 78) lv) → (∀ lv, lv ≤ fr.length → sA σ' (x + 79) lv = sA σ (x + 79) lv) → FrC σ' x fr
  | [], _, _, _ => trivial
  | (r, bt) :: fs, h, h1, h2 => by
    obtain ⟨g1, g2, g3⟩ := h
    have e := h1 fs.length (by simp)
    exact ⟨g1.kp hR hQ e.1 e.2, by rw [h2 (fs.length + 1) (by simp)]; exact g2, FrC.kp hR hQ g3 (fun lv hl => h1 lv (by simp; omega)) (fun lv hl => h2 lv (by simp; omega))⟩
/-- of the levels' rows nothing is written -/
theorem cW.lvs {x k c : Nat} {S : Nat → Prop} {σ σ' : St} (h : cW x S k c σ σ') (hx : XS σ x) (h1 : ¬ S (x + 77) ∧ ¬ S (x + 78) ∧ ¬ S (x + 79)) : (∀ lv, sQ σ' (x + 77) lv = sQ σ (x + 77) lv ∧ sA σ' (x + 78) lv = sA σ (x + 78) lv) ∧ ∀ lv, sA σ' (x + 79) lv = sA σ (x + 79) lv := by
  have k7 := hx.kd 77 107 (by decide)
  have k8 := hx.kd 78 100 (by decide)
  have k9 := hx.kd 79 100 (by decide)
  have e7 := (h.sam (by rw [k7]; omega) (Or.inl (by rw [k7]; omega)) h1.1).2.2.2.2
  have e8 := (h.sam (by rw [k8]; omega) (Or.inr (hx.2.2.2.2 78 (by decide))) h1.2.1).2.2.1
  have e9 := (h.sam (by rw [k9]; omega) (Or.inr (hx.2.2.2.2 79 (by decide))) h1.2.2).2.2.1
  exact ⟨fun lv => ⟨e7 lv, e8 lv⟩, e9⟩
theorem cW.mis {x k c : Nat} {S : Nat → Prop} {σ σ' : St} (h : cW x S k c σ σ') (hx : XS σ x) (h1 : ¬ S (x + 75)) : ∀ f, sI σ' f (x + 75) = sI σ f (x + 75) := by
  have k7 := hx.kd 75 7 (by decide)
  exact (h.sam (by rw [k7]; omega) (Or.inl (by rw [k7]; omega)) h1).1
/-- all that holds while it works -/
def WI (σ : St) (x b na fa o : Nat) (ns : List NE) (fs : List FE) (stk : List Qv) (cur : List It) (fr : Frs) (pl : Nat) (sts : Sts) : Prop :=
  (HP (PX x) σ ∧ XS σ x ∧ SQ σ x) ∧ KBk σ x b na fa ns fs ∧ MIs σ x stk.length fr.length sts.length ∧ Mst σ x stk ∧ (∀ q, stk.getLast? = some q → FX σ (x + 80) q.1 q.2.1 q.2.2) ∧ (Lv σ x fr.length cur ∧ FrC σ x fr) ∧ (fr ≠ [] → sI σ (fid 6 7) (x + 75) = nI pl) ∧ StS σ x o sts ∧ Fin cur fr stk.length ∧ sts.length ≤ 200
def WPo (σ : St) (x o : Nat) (r : Rs) (σ' : St) (v : Int32) : Prop := v = nI r.1 ∧ cM x (sM σ x o) 0 0 σ σ' ∧ SQ σ' x ∧ (r.1 ≠ 0 → sI σ' (fid 6 7) (x + 75) = nI r.2.1) ∧ (r.1 = 0 → FX σ' (x + 80) r.2.2.1.1 r.2.2.1.2.1 r.2.2.1.2.2 ∧ qok r.2.2.1 ∧ StS σ' x o r.2.2.2)
theorem WPo.pre {x o : Nat} {r : Rs} {v : Int32} {S : Nat → Prop} {σ σ1 σ2 : St} (ho : oO o) (h : WPo σ1 x o r σ2 v) (hF : cM x S 0 0 σ σ1) (hS : ∀ r, r < sz σ → S r → sM σ x o r) : WPo σ x o r σ2 v := by
  obtain ⟨h1, h2, h3⟩ := h
  refine ⟨h1, (hF.mo hS (Nat.le_refl _) (Nat.le_refl _)).tr0 h2 (fun r hr hs => sM.up ho hF.aE hr hs), h3⟩
/-- begin -/
theorem cm_begin {x s L h np : Nat} {l : List It} {σ : St} (hp : HP (PX x) σ) (hx : XS σ x) (hs : KSum σ x s l) (hL : L < 11) (h5 : sI σ (fid 6 5) (x + 75) = nI L) (h1 : sI σ (fid 6 1) (x + 75) = nI h) (hnp : np ≤ h) :
    Hx (fX2_begin σ (x + 75) s (nI np)) (fun σ' _ => cW x (fun r => x + 77 ≤ r ∧ r ≤ x + 79) 0 0 σ σ' ∧ sQ σ' (x + 77) L = s ∧ sA σ' (x + 78) L = nI 0 ∧ sA σ' (x + 79) L = nI (h - np) ∧ (∀ lv, lv ≠ L → sQ σ' (x + 77) lv = sQ σ (x + 77) lv ∧ sA σ' (x + 78) lv = sA σ (x + 78) lv ∧ sA σ' (x + 79) lv = sA σ (x + 79) lv)) := by
  have k7 := hx.kd 77 107 (by decide)
  have l7 := hx.nn 77 11 (by decide)
  rw [n_fX2_begin, xf_6_2 hx, mI hx 5, h5]
  refine hx_bs (hx_bs ?_)
  rw [stQ_ok (ti := 7) (ci := 13) k7 (by rw [l7]; exact hL) (by omega) (Or.inr hs.1.2.1)]
  refine hx_bs ?_
  have hF1 := cWq (j := L) (v := s) hp (show sK σ (x + 77) ≠ 8 by omega) (show sK σ (x + 77) ≠ 100 by omega)
  have hx1 := hx.kW hF1
  have e1 : ∀ f, sI (wQ σ (x + 77) L s) f (x + 75) = sI σ f (x + 75) := fun _ => rfl
  have q1 : sQ (wQ σ (x + 77) L s) (x + 77) L = s := sQ_wQ_eq
  have q2 : ∀ lv, lv ≠ L → sQ (wQ σ (x + 77) L s) (x + 77) lv = sQ σ (x + 77) lv := fun lv hl => sQ_wQ_j hl
  have q3 : ∀ a j, sA (wQ σ (x + 77) L s) a j = sA σ a j := fun _ _ => rfl
  generalize wQ σ (x + 77) L s = σ1 at *
  have k8 := hx1.kd 78 100 (by decide)
  have l8 := hx1.nn 78 11 (by decide)
  rw [xf_6_3 hx1]
  refine hx_bs ?_
  rw [mI hx1 5, e1, h5]
  refine hx_bs ?_
  rw [sm_st k8 (by rw [l8]; exact hL) (by omega)]
  refine hx_bs ?_
  have hF2 := cWa (j := L) (v := nI 0) hF1.hp k8 (hx1.2.2.2.2 78 (by decide))
  have hx2 := hx1.kW hF2
  have e2 : ∀ f, sI (wA σ1 (x + 78) L (nI 0)) f (x + 75) = sI σ f (x + 75) := e1
  have p1 : sA (wA σ1 (x + 78) L (nI 0)) (x + 78) L = nI 0 := sA_wA_eq
  have p2 : ∀ lv, lv ≠ L → sA (wA σ1 (x + 78) L (nI 0)) (x + 78) lv = sA σ (x + 78) lv := fun lv hl => (sA_wA_j hl).trans (q3 _ _)
  have p3 : ∀ lv, sA (wA σ1 (x + 78) L (nI 0)) (x + 79) lv = sA σ (x + 79) lv := fun lv => (congrFun (sA_wA_b (by omega)) lv).trans (q3 _ _)
  have p4 : ∀ lv, sQ (wA σ1 (x + 78) L (nI 0)) (x + 77) lv = sQ σ1 (x + 77) lv := fun _ => rfl
  generalize wA σ1 (x + 78) L (nI 0) = σ2 at *
  have k9 := hx2.kd 79 100 (by decide)
  have l9 := hx2.nn 79 11 (by decide)
  rw [xf_6_4 hx2]
  refine hx_bs ?_
  rw [mI hx2 5, e2, h5]
  refine hx_bs ?_
  rw [mI hx2 1, e2, h1]
  refine hx_bs ?_
  rw [sm_sub hnp, sm_st k9 (by rw [l9]; exact hL) (by omega)]
  refine hx_bs ?_
  have hF3 := cWa (j := L) (v := nI (h - np)) hF2.hp k9 (hx2.2.2.2.2 79 (by decide))
  refine Hx.ret ⟨?_, ?_, ?_, sA_wA_eq, fun lv hl => ⟨?_, ?_, ?_⟩⟩
  · exact ((hF1.mo (S' := fun r => x + 77 ≤ r ∧ r ≤ x + 79) (fun r _ hr => by simp only [s1] at hr; omega) (Nat.le_refl _) (Nat.le_refl _)).tr0 hF2 (fun r _ hr => by simp only [s1] at hr; omega)).tr0 hF3 (fun r _ hr => by simp only [s1] at hr; omega)
  · show sQ σ2 (x + 77) L = s
    rw [p4, q1]
  · rw [sA_wA_b (by omega)]; exact p1
  · show sQ σ2 (x + 77) lv = _
    rw [p4, q2 lv hl]
  · rw [sA_wA_b (by omega)]; exact p2 lv hl
  · rw [sA_wA_j hl]; exact p3 lv
