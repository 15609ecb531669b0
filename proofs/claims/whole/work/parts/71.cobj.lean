/-! ===== the class' objects that its constructor makes: x is the first cell ===== -/
def xK : List (Nat × Nat) := [(0, 16), (1, 100), (2, 100), (8, 104), (9, 2), (11, 13), (12, 100), (13, 104), (14, 13), (15, 100), (16, 104), (17, 106), (18, 10), (19, 8), (21, 8), (23, 8), (25, 8), (27, 8), (29, 8), (31, 8), (33, 8), (35, 8), (37, 8), (39, 8), (41, 8), (43, 8), (45, 6), (46, 8), (47, 100), (48, 8), (49, 100), (50, 6), (51, 8), (52, 100), (53, 8), (54, 100), (55, 6), (56, 8), (57, 100), (58, 8), (59, 100), (60, 6), (61, 8), (62, 100), (63, 8), (64, 100), (65, 9), (66, 100), (67, 100), (68, 100), (69, 100), (70, 100), (71, 100), (72, 100), (73, 100), (74, 100), (75, 7), (76, 104), (77, 107), (78, 100), (79, 100), (80, 6), (81, 8), (82, 100), (83, 8), (84, 100)]
def xF : List (Nat × Nat × Nat) := [(fid 15 0, 0, 1), (fid 15 6, 0, 2), (fid 15 9, 0, 8), (fid 15 10, 0, 9), (fid 12 0, 11, 12), (fid 12 1, 11, 13), (fid 12 0, 14, 15), (fid 12 1, 14, 16), (fid 15 13, 0, 17), (fid 15 16, 0, 18), (fid 9 0, 18, 19), (fid 9 1, 18, 21), (fid 9 2, 18, 23), (fid 9 3, 18, 25), (fid 9 4, 18, 27), (fid 9 5, 18, 29), (fid 9 6, 18, 31), (fid 9 7, 18, 33), (fid 9 8, 18, 35), (fid 9 9, 18, 37), (fid 9 10, 18, 39), (fid 9 11, 18, 41), (fid 9 12, 18, 43), (fid 9 13, 18, 45), (fid 5 1, 45, 46), (fid 5 2, 45, 48), (fid 9 14, 18, 50), (fid 5 1, 50, 51), (fid 5 2, 50, 53), (fid 9 15, 18, 55), (fid 5 1, 55, 56), (fid 5 2, 55, 58), (fid 9 16, 18, 60), (fid 5 1, 60, 61), (fid 5 2, 60, 63), (fid 15 17, 0, 65), (fid 8 0, 65, 66), (fid 8 2, 65, 67), (fid 8 3, 65, 68), (fid 8 4, 65, 69), (fid 8 7, 65, 70), (fid 8 8, 65, 71), (fid 8 9, 65, 72), (fid 8 10, 65, 73), (fid 8 16, 65, 74), (fid 15 18, 0, 75), (fid 6 0, 75, 76), (fid 6 2, 75, 77), (fid 6 3, 75, 78), (fid 6 4, 75, 79), (fid 6 8, 75, 80), (fid 5 1, 80, 81), (fid 5 2, 80, 83)]
def xN : List (Nat × Nat) := [(1, 200), (2, 30), (8, 10), (12, 200), (13, 200), (15, 200), (16, 200), (17, 21), (66, 200), (67, 201), (68, 201), (69, 201), (70, 200), (71, 200), (72, 200), (73, 200), (74, 4), (76, 1000), (77, 11), (78, 11), (79, 11)]
def xA : List Nat := [1, 2, 12, 15, 66, 67, 68, 69, 70, 71, 72, 73, 74, 78, 79]
/-- the Nats that may grow -/
abbrev PX (x : Nat) : List Nat := [x + 19, x + 21, x + 23, x + 25, x + 27, x + 29, x + 31, x + 33, x + 35, x + 37, x + 39, x + 41, x + 43, x + 46, x + 48, x + 51, x + 53, x + 56, x + 58, x + 61, x + 63, x + 81, x + 83]
def XS (σ : St) (x : Nat) : Prop := (0 < x ∧ x + 144 ≤ sz σ) ∧ (∀ p ∈ xK, sK σ (x + p.1) = p.2) ∧ (∀ p ∈ xF, sF σ p.1 (x + p.2.1) = x + p.2.2) ∧ (∀ p ∈ xN, sN σ (x + p.1) = p.2) ∧ ∀ o ∈ xA, NL σ (x + o)
theorem XS.keep {P S : List Nat} {k c x : Nat} {σ σ' : St} (h : XS σ x) (hR : cF P S k c σ σ') : XS σ' x := by
  obtain ⟨⟨h0, h1⟩, h2, h3, h4, h5⟩ := h
  have b1 : ∀ p ∈ xK, p.1 < 85 := by decide
  have b2 : ∀ p ∈ xF, p.2.1 < 85 ∧ mutF p.1 = false := by decide
  have b3 : ∀ p ∈ xN, p.1 < 85 := by decide
  have b4 : ∀ o ∈ xA, o < 85 := by decide
  refine ⟨⟨h0, Nat.le_trans h1 hR.2.1.1⟩, fun p hp => ?_, fun p hp => ?_, fun p hp => ?_, fun o ho => ?_⟩
  · have := b1 p hp
    rw [(hR.2.1.2 (x + p.1) (by omega)).1]
    exact h2 p hp
  · have := b2 p hp
    rw [(hR.2.1.2 (x + p.2.1) (by omega)).2.2 _ this.2]
    exact h3 p hp
  · have := b3 p hp
    rw [(hR.2.1.2 (x + p.1) (by omega)).2.1]
    exact h4 p hp
  · have := b4 o ho
    exact hR.nl (by omega) (h5 o ho)
theorem XS.kd {σ : St} {x : Nat} (h : XS σ x) (o κ : Nat) (hm : (o, κ) ∈ xK) : sK σ (x + o) = κ := h.2.1 _ hm
theorem XS.k0 {σ : St} {x : Nat} (h : XS σ x) : sK σ x = 16 := h.2.1 (0, 16) (by decide)
theorem XS.gf {σ : St} {x : Nat} (h : XS σ x) (c f o t : Nat) (hk : (o, c + 1) ∈ xK) (hf : (fid c f, o, t) ∈ xF) : gF σ c f (x + o) = some (x + t) := (sm_gF (h.2.1 _ hk)).trans (congrArg some (h.2.2.1 _ hf))
theorem XS.sf {σ : St} {x : Nat} (h : XS σ x) (c f o t : Nat) (hf : (fid c f, o, t) ∈ xF) : sF σ (fid c f) (x + o) = x + t := h.2.2.1 _ hf
theorem XS.ck {σ : St} {x : Nat} (h : XS σ x) (o κ : Nat) (hm : (o, κ) ∈ xK) : ckK σ κ (x + o) = some () := sm_ckK (h.2.1 _ hm)
theorem xf_15_0 {σ : St} {x : Nat} (h : XS σ x) : gF σ 15 0 x = some (x + 1) := h.gf 15 0 0 1 (by decide) (by decide)
theorem xf_15_6 {σ : St} {x : Nat} (h : XS σ x) : gF σ 15 6 x = some (x + 2) := h.gf 15 6 0 2 (by decide) (by decide)
theorem xf_15_9 {σ : St} {x : Nat} (h : XS σ x) : gF σ 15 9 x = some (x + 8) := h.gf 15 9 0 8 (by decide) (by decide)
theorem xf_15_10 {σ : St} {x : Nat} (h : XS σ x) : gF σ 15 10 x = some (x + 9) := h.gf 15 10 0 9 (by decide) (by decide)
theorem xf_12_0_11 {σ : St} {x : Nat} (h : XS σ x) : gF σ 12 0 (x + 11) = some (x + 12) := h.gf 12 0 11 12 (by decide) (by decide)
theorem xf_12_1_11 {σ : St} {x : Nat} (h : XS σ x) : gF σ 12 1 (x + 11) = some (x + 13) := h.gf 12 1 11 13 (by decide) (by decide)
theorem xf_12_0_14 {σ : St} {x : Nat} (h : XS σ x) : gF σ 12 0 (x + 14) = some (x + 15) := h.gf 12 0 14 15 (by decide) (by decide)
theorem xf_12_1_14 {σ : St} {x : Nat} (h : XS σ x) : gF σ 12 1 (x + 14) = some (x + 16) := h.gf 12 1 14 16 (by decide) (by decide)
theorem xf_15_13 {σ : St} {x : Nat} (h : XS σ x) : gF σ 15 13 x = some (x + 17) := h.gf 15 13 0 17 (by decide) (by decide)
theorem xf_15_16 {σ : St} {x : Nat} (h : XS σ x) : gF σ 15 16 x = some (x + 18) := h.gf 15 16 0 18 (by decide) (by decide)
theorem xf_9_0 {σ : St} {x : Nat} (h : XS σ x) : gF σ 9 0 (x + 18) = some (x + 19) := h.gf 9 0 18 19 (by decide) (by decide)
theorem xf_9_1 {σ : St} {x : Nat} (h : XS σ x) : gF σ 9 1 (x + 18) = some (x + 21) := h.gf 9 1 18 21 (by decide) (by decide)
theorem xf_9_2 {σ : St} {x : Nat} (h : XS σ x) : gF σ 9 2 (x + 18) = some (x + 23) := h.gf 9 2 18 23 (by decide) (by decide)
theorem xf_9_3 {σ : St} {x : Nat} (h : XS σ x) : gF σ 9 3 (x + 18) = some (x + 25) := h.gf 9 3 18 25 (by decide) (by decide)
theorem xf_9_4 {σ : St} {x : Nat} (h : XS σ x) : gF σ 9 4 (x + 18) = some (x + 27) := h.gf 9 4 18 27 (by decide) (by decide)
theorem xf_9_5 {σ : St} {x : Nat} (h : XS σ x) : gF σ 9 5 (x + 18) = some (x + 29) := h.gf 9 5 18 29 (by decide) (by decide)
theorem xf_9_6 {σ : St} {x : Nat} (h : XS σ x) : gF σ 9 6 (x + 18) = some (x + 31) := h.gf 9 6 18 31 (by decide) (by decide)
theorem xf_9_7 {σ : St} {x : Nat} (h : XS σ x) : gF σ 9 7 (x + 18) = some (x + 33) := h.gf 9 7 18 33 (by decide) (by decide)
theorem xf_9_8 {σ : St} {x : Nat} (h : XS σ x) : gF σ 9 8 (x + 18) = some (x + 35) := h.gf 9 8 18 35 (by decide) (by decide)
theorem xf_9_9 {σ : St} {x : Nat} (h : XS σ x) : gF σ 9 9 (x + 18) = some (x + 37) := h.gf 9 9 18 37 (by decide) (by decide)
theorem xf_9_10 {σ : St} {x : Nat} (h : XS σ x) : gF σ 9 10 (x + 18) = some (x + 39) := h.gf 9 10 18 39 (by decide) (by decide)
theorem xf_9_11 {σ : St} {x : Nat} (h : XS σ x) : gF σ 9 11 (x + 18) = some (x + 41) := h.gf 9 11 18 41 (by decide) (by decide)
theorem xf_9_12 {σ : St} {x : Nat} (h : XS σ x) : gF σ 9 12 (x + 18) = some (x + 43) := h.gf 9 12 18 43 (by decide) (by decide)
theorem xf_9_13 {σ : St} {x : Nat} (h : XS σ x) : gF σ 9 13 (x + 18) = some (x + 45) := h.gf 9 13 18 45 (by decide) (by decide)
theorem xf_5_1_45 {σ : St} {x : Nat} (h : XS σ x) : gF σ 5 1 (x + 45) = some (x + 46) := h.gf 5 1 45 46 (by decide) (by decide)
theorem xf_5_2_45 {σ : St} {x : Nat} (h : XS σ x) : gF σ 5 2 (x + 45) = some (x + 48) := h.gf 5 2 45 48 (by decide) (by decide)
theorem xf_9_14 {σ : St} {x : Nat} (h : XS σ x) : gF σ 9 14 (x + 18) = some (x + 50) := h.gf 9 14 18 50 (by decide) (by decide)
theorem xf_5_1_50 {σ : St} {x : Nat} (h : XS σ x) : gF σ 5 1 (x + 50) = some (x + 51) := h.gf 5 1 50 51 (by decide) (by decide)
theorem xf_5_2_50 {σ : St} {x : Nat} (h : XS σ x) : gF σ 5 2 (x + 50) = some (x + 53) := h.gf 5 2 50 53 (by decide) (by decide)
theorem xf_9_15 {σ : St} {x : Nat} (h : XS σ x) : gF σ 9 15 (x + 18) = some (x + 55) := h.gf 9 15 18 55 (by decide) (by decide)
theorem xf_5_1_55 {σ : St} {x : Nat} (h : XS σ x) : gF σ 5 1 (x + 55) = some (x + 56) := h.gf 5 1 55 56 (by decide) (by decide)
theorem xf_5_2_55 {σ : St} {x : Nat} (h : XS σ x) : gF σ 5 2 (x + 55) = some (x + 58) := h.gf 5 2 55 58 (by decide) (by decide)
theorem xf_9_16 {σ : St} {x : Nat} (h : XS σ x) : gF σ 9 16 (x + 18) = some (x + 60) := h.gf 9 16 18 60 (by decide) (by decide)
theorem xf_5_1_60 {σ : St} {x : Nat} (h : XS σ x) : gF σ 5 1 (x + 60) = some (x + 61) := h.gf 5 1 60 61 (by decide) (by decide)
theorem xf_5_2_60 {σ : St} {x : Nat} (h : XS σ x) : gF σ 5 2 (x + 60) = some (x + 63) := h.gf 5 2 60 63 (by decide) (by decide)
theorem xf_15_17 {σ : St} {x : Nat} (h : XS σ x) : gF σ 15 17 x = some (x + 65) := h.gf 15 17 0 65 (by decide) (by decide)
theorem xf_8_0 {σ : St} {x : Nat} (h : XS σ x) : gF σ 8 0 (x + 65) = some (x + 66) := h.gf 8 0 65 66 (by decide) (by decide)
theorem xf_8_2 {σ : St} {x : Nat} (h : XS σ x) : gF σ 8 2 (x + 65) = some (x + 67) := h.gf 8 2 65 67 (by decide) (by decide)
theorem xf_8_3 {σ : St} {x : Nat} (h : XS σ x) : gF σ 8 3 (x + 65) = some (x + 68) := h.gf 8 3 65 68 (by decide) (by decide)
theorem xf_8_4 {σ : St} {x : Nat} (h : XS σ x) : gF σ 8 4 (x + 65) = some (x + 69) := h.gf 8 4 65 69 (by decide) (by decide)
theorem xf_8_7 {σ : St} {x : Nat} (h : XS σ x) : gF σ 8 7 (x + 65) = some (x + 70) := h.gf 8 7 65 70 (by decide) (by decide)
theorem xf_8_8 {σ : St} {x : Nat} (h : XS σ x) : gF σ 8 8 (x + 65) = some (x + 71) := h.gf 8 8 65 71 (by decide) (by decide)
theorem xf_8_9 {σ : St} {x : Nat} (h : XS σ x) : gF σ 8 9 (x + 65) = some (x + 72) := h.gf 8 9 65 72 (by decide) (by decide)
theorem xf_8_10 {σ : St} {x : Nat} (h : XS σ x) : gF σ 8 10 (x + 65) = some (x + 73) := h.gf 8 10 65 73 (by decide) (by decide)
theorem xf_8_16 {σ : St} {x : Nat} (h : XS σ x) : gF σ 8 16 (x + 65) = some (x + 74) := h.gf 8 16 65 74 (by decide) (by decide)
theorem xf_15_18 {σ : St} {x : Nat} (h : XS σ x) : gF σ 15 18 x = some (x + 75) := h.gf 15 18 0 75 (by decide) (by decide)
theorem xf_6_0 {σ : St} {x : Nat} (h : XS σ x) : gF σ 6 0 (x + 75) = some (x + 76) := h.gf 6 0 75 76 (by decide) (by decide)
theorem xf_6_2 {σ : St} {x : Nat} (h : XS σ x) : gF σ 6 2 (x + 75) = some (x + 77) := h.gf 6 2 75 77 (by decide) (by decide)
theorem xf_6_3 {σ : St} {x : Nat} (h : XS σ x) : gF σ 6 3 (x + 75) = some (x + 78) := h.gf 6 3 75 78 (by decide) (by decide)
theorem xf_6_4 {σ : St} {x : Nat} (h : XS σ x) : gF σ 6 4 (x + 75) = some (x + 79) := h.gf 6 4 75 79 (by decide) (by decide)
theorem xf_6_8 {σ : St} {x : Nat} (h : XS σ x) : gF σ 6 8 (x + 75) = some (x + 80) := h.gf 6 8 75 80 (by decide) (by decide)
theorem xf_5_1_80 {σ : St} {x : Nat} (h : XS σ x) : gF σ 5 1 (x + 80) = some (x + 81) := h.gf 5 1 80 81 (by decide) (by decide)
theorem xf_5_2_80 {σ : St} {x : Nat} (h : XS σ x) : gF σ 5 2 (x + 80) = some (x + 83) := h.gf 5 2 80 83 (by decide) (by decide)
theorem xk_0 {σ : St} {x : Nat} (h : XS σ x) : ckK σ 16 x = some () := h.ck 0 16 (by decide)
theorem xk_9 {σ : St} {x : Nat} (h : XS σ x) : ckK σ 2 (x + 9) = some () := h.ck 9 2 (by decide)
theorem xk_11 {σ : St} {x : Nat} (h : XS σ x) : ckK σ 13 (x + 11) = some () := h.ck 11 13 (by decide)
theorem xk_14 {σ : St} {x : Nat} (h : XS σ x) : ckK σ 13 (x + 14) = some () := h.ck 14 13 (by decide)
theorem xk_18 {σ : St} {x : Nat} (h : XS σ x) : ckK σ 10 (x + 18) = some () := h.ck 18 10 (by decide)
theorem xk_19 {σ : St} {x : Nat} (h : XS σ x) : ckK σ 8 (x + 19) = some () := h.ck 19 8 (by decide)
theorem xk_21 {σ : St} {x : Nat} (h : XS σ x) : ckK σ 8 (x + 21) = some () := h.ck 21 8 (by decide)
theorem xk_23 {σ : St} {x : Nat} (h : XS σ x) : ckK σ 8 (x + 23) = some () := h.ck 23 8 (by decide)
theorem xk_25 {σ : St} {x : Nat} (h : XS σ x) : ckK σ 8 (x + 25) = some () := h.ck 25 8 (by decide)
theorem xk_27 {σ : St} {x : Nat} (h : XS σ x) : ckK σ 8 (x + 27) = some () := h.ck 27 8 (by decide)
theorem xk_29 {σ : St} {x : Nat} (h : XS σ x) : ckK σ 8 (x + 29) = some () := h.ck 29 8 (by decide)
theorem xk_31 {σ : St} {x : Nat} (h : XS σ x) : ckK σ 8 (x + 31) = some () := h.ck 31 8 (by decide)
theorem xk_33 {σ : St} {x : Nat} (h : XS σ x) : ckK σ 8 (x + 33) = some () := h.ck 33 8 (by decide)
theorem xk_35 {σ : St} {x : Nat} (h : XS σ x) : ckK σ 8 (x + 35) = some () := h.ck 35 8 (by decide)
theorem xk_37 {σ : St} {x : Nat} (h : XS σ x) : ckK σ 8 (x + 37) = some () := h.ck 37 8 (by decide)
theorem xk_39 {σ : St} {x : Nat} (h : XS σ x) : ckK σ 8 (x + 39) = some () := h.ck 39 8 (by decide)
theorem xk_41 {σ : St} {x : Nat} (h : XS σ x) : ckK σ 8 (x + 41) = some () := h.ck 41 8 (by decide)
theorem xk_43 {σ : St} {x : Nat} (h : XS σ x) : ckK σ 8 (x + 43) = some () := h.ck 43 8 (by decide)
theorem xk_45 {σ : St} {x : Nat} (h : XS σ x) : ckK σ 6 (x + 45) = some () := h.ck 45 6 (by decide)
theorem xk_46 {σ : St} {x : Nat} (h : XS σ x) : ckK σ 8 (x + 46) = some () := h.ck 46 8 (by decide)
theorem xk_48 {σ : St} {x : Nat} (h : XS σ x) : ckK σ 8 (x + 48) = some () := h.ck 48 8 (by decide)
theorem xk_50 {σ : St} {x : Nat} (h : XS σ x) : ckK σ 6 (x + 50) = some () := h.ck 50 6 (by decide)
theorem xk_51 {σ : St} {x : Nat} (h : XS σ x) : ckK σ 8 (x + 51) = some () := h.ck 51 8 (by decide)
theorem xk_53 {σ : St} {x : Nat} (h : XS σ x) : ckK σ 8 (x + 53) = some () := h.ck 53 8 (by decide)
theorem xk_55 {σ : St} {x : Nat} (h : XS σ x) : ckK σ 6 (x + 55) = some () := h.ck 55 6 (by decide)
theorem xk_56 {σ : St} {x : Nat} (h : XS σ x) : ckK σ 8 (x + 56) = some () := h.ck 56 8 (by decide)
theorem xk_58 {σ : St} {x : Nat} (h : XS σ x) : ckK σ 8 (x + 58) = some () := h.ck 58 8 (by decide)
theorem xk_60 {σ : St} {x : Nat} (h : XS σ x) : ckK σ 6 (x + 60) = some () := h.ck 60 6 (by decide)
theorem xk_61 {σ : St} {x : Nat} (h : XS σ x) : ckK σ 8 (x + 61) = some () := h.ck 61 8 (by decide)
theorem xk_63 {σ : St} {x : Nat} (h : XS σ x) : ckK σ 8 (x + 63) = some () := h.ck 63 8 (by decide)
theorem xk_65 {σ : St} {x : Nat} (h : XS σ x) : ckK σ 9 (x + 65) = some () := h.ck 65 9 (by decide)
theorem xk_75 {σ : St} {x : Nat} (h : XS σ x) : ckK σ 7 (x + 75) = some () := h.ck 75 7 (by decide)
theorem xk_80 {σ : St} {x : Nat} (h : XS σ x) : ckK σ 6 (x + 80) = some () := h.ck 80 6 (by decide)
theorem xk_81 {σ : St} {x : Nat} (h : XS σ x) : ckK σ 8 (x + 81) = some () := h.ck 81 8 (by decide)
theorem xk_83 {σ : St} {x : Nat} (h : XS σ x) : ckK σ 8 (x + 83) = some () := h.ck 83 8 (by decide)
