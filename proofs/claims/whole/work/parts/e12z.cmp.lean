/-! ===== the law: doubles of means ===== -/
theorem md_cmp : ∀ k, k < 21 → 0 < k → ∀ s, s < 721 → Op.cmpValue (FP.dcmp (FP.ddiv (FP.i2d (nI s)) (FP.i2d (nI k))) (FP.ddiv (FP.i2d (nI s)) (FP.i2d (nI k)))) .l = 0 := by decide +kernel
theorem md_cmp0 : Op.cmpValue (FP.dcmp (0 : UInt64) 0) .l = 0 := by decide +kernel
theorem wh_cmp : ∀ n, n < 11 → ckND (FP.f2d (FP.fdiv (FP.i2f (nI n)) 1092616192)) = some () ∧ Op.cmpValue (FP.dcmp (FP.f2d (FP.fdiv (FP.i2f (nI n)) 1092616192)) (FP.f2d (FP.fdiv (FP.i2f (nI n)) 1092616192))) .l = 0 := by decide +kernel
theorem whl_b : ∀ qs : List Qv, whl qs ≤ qs.length
  | [] => Nat.le_refl _
  | q :: qs => by
    have := whl_b qs
    show (if q.2.2 = 1 then 1 else 0) + whl qs ≤ qs.length + 1
    split <;> omega
