/-! ===== the reference's calls: what is answered with a point ===== -/
theorem ckNF_all : ∀ n, n < 11 → ckNF (FP.fdiv (FP.i2f (nI n)) 1092616192) = some () := by decide
theorem ckND_all : ∀ k, k < 21 → 0 < k → ∀ s, s < 721 → ckND (FP.ddiv (FP.i2d (nI s)) (FP.i2d (nI k))) = some () := by decide +kernel
