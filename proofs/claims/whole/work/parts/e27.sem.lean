/-! ===== the law holds of the two ===== -/
theorem law_sem (z b kw tn L : Nat) (xs : Nat → Int32) (hL : L ≤ 3072) (hb : 0 < b ∧ b < z) (hkw : 0 < kw ∧ kw < z) (htn : 0 < tn ∧ tn < z) (e1 : b ≠ kw) (e2 : b ≠ tn) (e3 : kw ≠ tn) : pL_law 603072 7207018 (st0 z b kw tn L xs) b := by
  refine law_bgn hb hkw htn e1 e2 e3 (fun σ hB => ?_)
  obtain ⟨hV, hR, hJ, hS, hc, hw⟩ := hB
  have hU : Unq (([] : List NE).map (·.1)) := fun a b w h => by cases h
  have hU2 : Unq (([] : List FE).map (·.1)) := fun a b w h => by cases h
  have hz : Bkz ([], [], [[], [], []]) := by
    refine Bkz.mk ⟨⟨hU, hU2⟩, fun e he => (by cases he), by decide, fun e he => (by cases he), fun e he => (by cases he), fun e he => (by cases he)⟩ List.Pairwise.nil List.Pairwise.nil (fun v hv => (by cases hv)) (fun v hv => (by cases hv)) (fun e he => (by cases he)) (by decide) (fun e he => (by cases he))
  have hG : Good ([], [], [[], [], []]) := by
    refine ⟨hz, rfl, fun vs hvs => ?_⟩
    have : vs = [] := by simpa using hvs
    subst this
    exact ⟨by decide, fun q hq => (by cases hq), List.Pairwise.nil⟩
  have hM : Mid z b L xs 0 kst0.1.length kst0 (601, 0, 0) (rst kst0 (([], [], [[], [], []]), [], [])) σ := by
    refine ⟨⟨14, vw_ki hV⟩, hR, hJ, hS, ?_, ?_⟩
    · show sw σ + 20 * 0 ≤ _; omega
    · show sc σ + 5 * 0 ≤ _; omega
  refine law_loop hL FU 0 kst0 (601, 0, 0) (([], [], [[], [], []]), [], []) σ (by unfold FU; omega) (by omega) hM ⟨⟨rfl, rfl, by decide, fun i A hA => ?_⟩, fun A hA => ?_⟩ ⟨by decide, by decide, by decide⟩
  · cases i with
    | zero =>
      cases hA
      exact ⟨_, rfl, hz.bti⟩
    | succ i => cases hA
  · have hA : A ∈ [(([], [], [[], [], []]) : As)] := hA
    rw [List.mem_singleton] at hA
    subst hA
    exact hG
