/-! ===== the class' words that are known, and refusals ===== -/
def kwl : List Nat := [5188, 8842, 3436200, 62949, 279252, 802, 9616, 10786, 3065, 9734, 9528]
def KWs (σ : St) (x : Nat) : Prop := ∃ a, sF σ 9001 0 = a ∧ a < x ∧ sK σ a = 150 ∧ sN σ a = 11 ∧ ∀ i w, kwl[i]? = some w → sA σ a i = nI w
theorem KWs.kB {x : Nat} {σ σ' : St} (h : KWs σ x) (hR : cB x σ σ') (hx : XS σ x) (hQ : SQ σ x) : KWs σ' x := by
  obtain ⟨a, h1, h2, h3, h4, h5⟩ := h
  obtain ⟨⟨S, k, c, a1, a2⟩, a3⟩ := hR
  have hz : a < sz σ := a1.1.1.1.lt (by omega)
  have h0 : 0 < sz σ := by have := hx.z; omega
  have hs := a1.sam (a := a) (by omega) (Or.inl (by omega)) (fun hs => by
    rcases a2 a hz hs with h | ⟨T, i, hT, g0, g⟩ | g | ⟨_, g⟩
    · omega
    · obtain ⟨_, ⟨f1, _, ⟨f2, _⟩, f3, _⟩, _⟩ := hQ.1 T i hT g0
      rcases g with g | g | g
      · rw [← g] at f1; omega
      · rw [← g] at f2; omega
      · rw [← g] at f3; omega
    · rw [g] at h3; omega
    · omega)
  exact ⟨a, ((a1.2.1.2 0 h0).2.2 9001 (by decide)).trans h1, h2, a1.k h3 (by omega), ((a1.2.1.2 a hz).2.1).trans h4, fun i w hw => (hs.2.2.1 i).trans (h5 i w hw)⟩
theorem cx_stepOf {σ : St} {x w : Nat} (h : KWs σ x) (hw : w < 2147483648) : fX11_stepOf σ (nI w) = some (σ, nI (known w)) := by
  obtain ⟨a, h1, h2, h3, h4, h5⟩ := h
  have al : aln σ (sF σ 9001 0) = some (nI 11) := by
    rw [h1]
    unfold aln
    rw [if_pos (Or.inr h3), h4]
  have stp : ∀ n k c, kwl[k]? = some c → c < 2147483648 → fX11_stepOf_2 (n + 1) σ (nI w) (nI k) = if w = c then some (σ, nI (10 + k)) else fX11_stepOf_2 n σ (nI w) (nI (k + 1)) := by
    intro n k c hc hc2
    have hk : k < 11 := (List.getElem?_eq_some_iff.mp hc).1
    have hl : ldI σ (sF σ 9001 0) (nI k) = some (nI c) := by
      rw [h1]
      unfold ldI
      rw [if_pos ⟨Or.inr h3, sm_inb (by rw [h4]; exact hk) (by omega)⟩, sm_clamp (by omega), h5 k c hc]
    rw [n_fX11_stepOf_2, al]
    show (if nI 11 ≤ nI k then _ else _) = _
    rw [if_neg (by rw [sm_le (by omega) (by omega)]; omega), hl]
    show (if nI c = nI w then _ else _) = _
    by_cases e : w = c
    · rw [if_pos (by rw [e]), if_pos e, sm_add]
    · rw [if_neg (by rw [sm_eq hc2 hw]; exact fun q => e q.symm), if_neg e]
      show fX11_stepOf_2 n σ (nI w) (nI k + nI 1) = _
      rw [sm_add]
  have fin : ∀ n, fX11_stepOf_2 (n + 1) σ (nI w) (nI 11) = some (σ, nI 0) := by
    intro n
    apply hx_eq
    rw [n_fX11_stepOf_2, al]
    exact hx_bs (Hx.ce (sm_le (by omega) (by omega)) (fun _ => Hx.ret ⟨rfl, rfl⟩) (fun c => absurd (Nat.le_refl 11) c))
  have all : ∀ n, fX11_stepOf_2 (n + 12) σ (nI w) (nI 0) = some (σ, nI (known w)) := by
    intro n
    rw [stp (n + 11) 0 5188 rfl (by omega), stp (n + 10) 1 8842 rfl (by omega), stp (n + 9) 2 3436200 rfl (by omega), stp (n + 8) 3 62949 rfl (by omega), stp (n + 7) 4 279252 rfl (by omega), stp (n + 6) 5 802 rfl (by omega), stp (n + 5) 6 9616 rfl (by omega), stp (n + 4) 7 10786 rfl (by omega), stp (n + 3) 8 3065 rfl (by omega), stp (n + 2) 9 9734 rfl (by omega), stp (n + 1) 10 9528 rfl (by omega), fin n]
    by_cases e1 : w = 5188
    · subst e1; rfl
    rw [if_neg e1]
    by_cases e2 : w = 8842
    · subst e2; rfl
    rw [if_neg e2]
    by_cases e3 : w = 3436200
    · subst e3; rfl
    rw [if_neg e3]
    by_cases e4 : w = 62949
    · subst e4; rfl
    rw [if_neg e4]
    by_cases e5 : w = 279252
    · subst e5; rfl
    rw [if_neg e5]
    by_cases e6 : w = 802
    · subst e6; rfl
    rw [if_neg e6]
    by_cases e7 : w = 9616
    · subst e7; rfl
    rw [if_neg e7]
    by_cases e8 : w = 10786
    · subst e8; rfl
    rw [if_neg e8]
    by_cases e9 : w = 3065
    · subst e9; rfl
    rw [if_neg e9]
    by_cases e10 : w = 9734
    · subst e10; rfl
    rw [if_neg e10]
    by_cases e11 : w = 9528
    · subst e11; rfl
    rw [if_neg e11]
    unfold known
    rw [if_neg e6, if_neg e9, if_neg e1, if_neg e2, if_neg e11, if_neg e7, if_neg e10, if_neg e8, if_neg e4, if_neg e5, if_neg e3]
  rw [n_fX11_stepOf]
  exact all 4294967284
/-- the latest refusal -/
def KRef (σ : St) (x : Nat) (why place failed : Int) (ring : List Int) : Prop := sI σ (fid 15 3) x = iz why ∧ sI σ (fid 15 4) x = iz place ∧ sI σ (fid 15 5) x = iz failed ∧ sI σ (fid 15 7) x = nI ring.length ∧ ring.length ≤ 30 ∧ ∀ i z, ring[i]? = some z → sA σ (x + 2) i = iz z
abbrev rfL : List Nat := [fid 15 3, fid 15 4, fid 15 5, fid 15 7]
theorem cx_refuse {x : Nat} {why place : Int32} {σ : St} (hp0 : HP (PX x) σ) (hx : XS σ x) : Hx (fX11_refuse σ x why place) (fun σ' _ => cW x (s1 x) 0 0 σ σ' ∧ xI rfL x σ σ' ∧ sI σ' (fid 15 3) x = why ∧ sI σ' (fid 15 4) x = place ∧ sI σ' (fid 15 5) x = iz (-1) ∧ sI σ' (fid 15 7) x = nI 0) := by
  have k0 : sK σ x = 15 + 1 := hx.kd 0 16 (by decide)
  have hF1 := cWi (f := fid 15 3) (v := why) hp0 (show sK σ x ≠ 8 by omega) (by omega)
  have hF2 := hF1.tr0 (cWi (f := fid 15 4) (v := place) hF1.hp (show sK σ x ≠ 8 by omega) (show sK σ x ≠ 100 by omega)) (fun r _ hr => hr)
  have hF3 := hF2.tr0 (cWi (f := fid 15 5) (v := iz (-1)) hF2.hp (show sK σ x ≠ 8 by omega) (show sK σ x ≠ 100 by omega)) (fun r _ hr => hr)
  have hF4 := hF3.tr0 (cWi (f := fid 15 7) (v := nI 0) hF3.hp (show sK σ x ≠ 8 by omega) (show sK σ x ≠ 100 by omega)) (fun r _ hr => hr)
  rw [n_fX11_refuse, sm_pI k0]
  refine hx_bs ?_
  rw [sm_pI (show sK (wI σ (fid 15 3) x why) x = 15 + 1 from k0)]
  refine hx_bs ?_
  rw [sm_pI (show sK (wI (wI σ (fid 15 3) x why) (fid 15 4) x place) x = 15 + 1 from k0)]
  refine hx_bs ?_
  rw [sm_pI (show sK (wI (wI (wI σ (fid 15 3) x why) (fid 15 4) x place) (fid 15 5) x (iz (-1))) x = 15 + 1 from k0)]
  refine hx_bs (Hx.ret ⟨hF4, ⟨fun f hf => ?_, fun f => rfl⟩, ?_, ?_, ?_, sI_wI_eq⟩)
  · simp only [List.mem_cons, List.not_mem_nil, or_false, not_or] at hf
    exact (sI_wI_f hf.2.2.2).trans ((sI_wI_f hf.2.2.1).trans ((sI_wI_f hf.2.1).trans (sI_wI_f hf.1)))
  · exact (sI_wI_f (by decide)).trans ((sI_wI_f (by decide)).trans ((sI_wI_f (by decide)).trans sI_wI_eq))
  · exact (sI_wI_f (by decide)).trans ((sI_wI_f (by decide)).trans sI_wI_eq)
  · exact (sI_wI_f (by decide)).trans sI_wI_eq
/-- the line that the reader has read -/
def Ln (σ : St) (x form w wp np : Nat) (l : List It) : Prop := (sI σ (fid 8 13) (x + 65) = nI form ∧ form ≤ 2) ∧ (sI σ (fid 8 14) (x + 65) = nI w ∧ w < 387420489) ∧ (sI σ (fid 8 15) (x + 65) = nI wp ∧ wp ≤ 200) ∧ (sI σ (fid 8 17) (x + 65) = nI np ∧ np ≤ 4) ∧ KSum σ x (sF σ (fid 8 18) (x + 65)) l
theorem Ln.f {σ : St} {x form w wp np : Nat} {l : List It} (h : Ln σ x form w wp np l) (hx : XS σ x) : gF σ 15 17 x = some (x + 65) ∧ gI σ 8 13 (x + 65) = some (nI form) ∧ gI σ 8 14 (x + 65) = some (nI w) ∧ gI σ 8 15 (x + 65) = some (nI wp) ∧ gI σ 8 17 (x + 65) = some (nI np) ∧ gF σ 8 18 (x + 65) = some (sF σ (fid 8 18) (x + 65)) := by
  obtain ⟨⟨h1, _⟩, ⟨h2, _⟩, ⟨h3, _⟩, ⟨h4, _⟩, _⟩ := h
  have k : sK σ (x + 65) = 8 + 1 := hx.kd 65 9 (by decide)
  exact ⟨hx.gf 15 17 0 65 (by decide) (by decide), (sm_gI k).trans (congrArg some h1), (sm_gI k).trans (congrArg some h2), (sm_gI k).trans (congrArg some h3), (sm_gI k).trans (congrArg some h4), sm_gF k⟩
theorem Ln.kW {σ σ' : St} {x form w wp np k c : Nat} {S : Nat → Prop} {l : List It} (h : Ln σ x form w wp np l) (hF : cW x S k c σ σ') (hx : XS σ x) (hB : cB x σ σ') (hQ : SQ σ x) (hS : ¬ S (x + 65)) : Ln σ' x form w wp np l := by
  obtain ⟨⟨h1, g1⟩, ⟨h2, g2⟩, ⟨h3, g3⟩, ⟨h4, g4⟩, h5⟩ := h
  have k9 : sK σ (x + 65) = 9 := hx.kd 65 9 (by decide)
  have s1 := hF.sam (a := x + 65) (by omega) (Or.inl (by omega)) hS
  exact ⟨⟨by rw [s1.1]; exact h1, g1⟩, ⟨by rw [s1.1]; exact h2, g2⟩, ⟨by rw [s1.1]; exact h3, g3⟩, ⟨by rw [s1.1]; exact h4, g4⟩, by rw [s1.2.1]; exact h5.kB hB hQ⟩
