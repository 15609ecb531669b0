/-! ===== the class is made: what stands at the end ===== -/
def cK : L3 := [(97, 104, 0), (96, 11, 0), (95, 104, 0), (94, 11, 0), (93, 104, 0), (92, 11, 0), (91, 105, 3), (90, 100, 0), (89, 100, 0), (88, 108, 0), (87, 108, 0), (86, 5, 0), (85, 12, 0), (84, 100, 4), (83, 8, 0), (82, 100, 4), (81, 8, 0), (80, 6, 0), (79, 100, 11), (78, 100, 11), (77, 107, 11), (76, 104, 1000), (75, 7, 0), (74, 100, 4), (73, 100, 200), (72, 100, 200), (71, 100, 200), (70, 100, 200), (69, 100, 201), (68, 100, 201), (67, 100, 201), (66, 100, 200), (65, 9, 0), (64, 100, 4), (63, 8, 0), (62, 100, 4), (61, 8, 0), (60, 6, 0), (59, 100, 4), (58, 8, 0), (57, 100, 4), (56, 8, 0), (55, 6, 0), (54, 100, 4), (53, 8, 0), (52, 100, 4), (51, 8, 0), (50, 6, 0), (49, 100, 4), (48, 8, 0), (47, 100, 4), (46, 8, 0), (45, 6, 0), (44, 100, 4), (43, 8, 0), (42, 100, 4), (41, 8, 0), (40, 100, 4), (39, 8, 0), (38, 100, 4), (37, 8, 0), (36, 100, 4), (35, 8, 0), (34, 100, 4), (33, 8, 0), (32, 100, 4), (31, 8, 0), (30, 100, 4), (29, 8, 0), (28, 100, 4), (27, 8, 0), (26, 100, 4), (25, 8, 0), (24, 100, 4), (23, 8, 0), (22, 100, 4), (21, 8, 0), (20, 100, 4), (19, 8, 0), (18, 10, 0), (17, 106, 21), (16, 104, 200), (15, 100, 200), (14, 13, 0), (13, 104, 200), (12, 100, 200), (11, 13, 0), (10, 101, 16), (9, 2, 0), (8, 104, 10), (7, 100, 4), (6, 8, 0), (5, 100, 4), (4, 8, 0), (3, 6, 0), (2, 100, 30), (1, 100, 200), (0, 16, 0)]
def cF_ : L3 := [(fid 10 0, 96, 97), (fid 10 0, 94, 95), (fid 10 0, 92, 93), (fid 11 1, 85, 91), (fid 11 0, 85, 86), (fid 4 3, 86, 90), (fid 4 2, 86, 89), (fid 4 1, 86, 88), (fid 4 0, 86, 87), (fid 15 18, 0, 75), (fid 6 8, 75, 80), (fid 5 2, 80, 83), (fid 7 0, 83, 84), (fid 5 1, 80, 81), (fid 7 0, 81, 82), (fid 6 4, 75, 79), (fid 6 3, 75, 78), (fid 6 2, 75, 77), (fid 6 0, 75, 76), (fid 15 17, 0, 65), (fid 8 16, 65, 74), (fid 8 10, 65, 73), (fid 8 9, 65, 72), (fid 8 8, 65, 71), (fid 8 7, 65, 70), (fid 8 4, 65, 69), (fid 8 3, 65, 68), (fid 8 2, 65, 67), (fid 8 0, 65, 66), (fid 15 16, 0, 18), (fid 9 16, 18, 60), (fid 5 2, 60, 63), (fid 7 0, 63, 64), (fid 5 1, 60, 61), (fid 7 0, 61, 62), (fid 9 15, 18, 55), (fid 5 2, 55, 58), (fid 7 0, 58, 59), (fid 5 1, 55, 56), (fid 7 0, 56, 57), (fid 9 14, 18, 50), (fid 5 2, 50, 53), (fid 7 0, 53, 54), (fid 5 1, 50, 51), (fid 7 0, 51, 52), (fid 9 13, 18, 45), (fid 5 2, 45, 48), (fid 7 0, 48, 49), (fid 5 1, 45, 46), (fid 7 0, 46, 47), (fid 9 12, 18, 43), (fid 7 0, 43, 44), (fid 9 11, 18, 41), (fid 7 0, 41, 42), (fid 9 10, 18, 39), (fid 7 0, 39, 40), (fid 9 9, 18, 37), (fid 7 0, 37, 38), (fid 9 8, 18, 35), (fid 7 0, 35, 36), (fid 9 7, 18, 33), (fid 7 0, 33, 34), (fid 9 6, 18, 31), (fid 7 0, 31, 32), (fid 9 5, 18, 29), (fid 7 0, 29, 30), (fid 9 4, 18, 27), (fid 7 0, 27, 28), (fid 9 3, 18, 25), (fid 7 0, 25, 26), (fid 9 2, 18, 23), (fid 7 0, 23, 24), (fid 9 1, 18, 21), (fid 7 0, 21, 22), (fid 9 0, 18, 19), (fid 7 0, 19, 20), (fid 15 13, 0, 17), (fid 15 12, 0, 14), (fid 12 1, 14, 16), (fid 12 0, 14, 15), (fid 15 11, 0, 11), (fid 12 1, 11, 13), (fid 12 0, 11, 12), (fid 15 10, 0, 9), (fid 1 0, 9, 10), (fid 15 9, 0, 8), (fid 15 8, 0, 3), (fid 5 2, 3, 6), (fid 7 0, 6, 7), (fid 5 1, 3, 4), (fid 7 0, 4, 5), (fid 15 6, 0, 2), (fid 15 0, 0, 1)]
def cI : LI := [(fid 7 1, 83, 1), (fid 7 1, 63, 1), (fid 7 1, 58, 1), (fid 7 1, 53, 1), (fid 7 1, 48, 1), (fid 1 1, 9, 0), (fid 7 1, 6, 1), (fid 15 5, 0, -1), (fid 15 4, 0, -1), (fid 15 3, 0, -1), (fid 15 2, 0, -1)]
def cA : LI := [(84, 1, 0), (84, 0, 1), (64, 1, 0), (64, 0, 1), (59, 1, 0), (59, 0, 1), (54, 1, 0), (54, 0, 1), (49, 1, 0), (49, 0, 1), (7, 1, 0), (7, 0, 1)]
def cQ : L3 := [(17, 0, 85), (91, 2, 96), (91, 1, 94), (91, 0, 92), (8, 9, 3), (8, 8, 3), (8, 7, 3), (8, 6, 3), (8, 5, 3), (8, 4, 3), (8, 3, 3), (8, 2, 3), (8, 1, 3), (8, 0, 3)]
theorem ci_main {x W : Nat} {σ0 σ : St} (h : Cst x σ0 1 W [(0, 16, 0)] [] [] [] [] σ) : Hx (fX11_init σ (x + 0)) (fun σ' _ => Cst x σ0 98 (W + 3952) cK cF_ cI cA cQ σ') := by
  have h0 := h
  rw [n_fX11_init]
  refine ca_P h0 ?_
  refine ca_A h0 (by omega) (fun σ1 h1 => ?_)
  refine ca_F h1 (o := 0) (t := 1) (by omega) rfl (fun σ2 h2 => ?_)
  refine ca_I h2 (o := 0) (v := -1) (by omega) rfl (fun σ3 h3 => ?_)
  refine ca_I h3 (o := 0) (v := -1) (by omega) rfl (fun σ4 h4 => ?_)
  refine ca_I h4 (o := 0) (v := -1) (by omega) rfl (fun σ5 h5 => ?_)
  refine ca_I h5 (o := 0) (v := -1) (by omega) rfl (fun σ6 h6 => ?_)
  refine ca_A h6 (by omega) (fun σ7 h7 => ?_)
  refine ca_F h7 (o := 0) (t := 2) (by omega) rfl (fun σ8 h8 => ?_)
  refine ca_fracK h8 (fun σ9 h9 => ?_)
  refine ca_F h9 (o := 0) (t := 3) (by omega) rfl (fun σ10 h10 => ?_)
  refine ca_A h10 (by omega) (fun σ11 h11 => ?_)
  refine ca_F h11 (o := 0) (t := 8) (by omega) rfl (fun σ12 h12 => ?_)
  refine ci_sb h12 (fun σ13 h13 => ?_)
  refine ca_F h13 (o := 0) (t := 9) (by omega) rfl (fun σ14 h14 => ?_)
  refine ci_st11 h14 (fun σ15 h15 => ?_)
  refine ca_F h15 (o := 0) (t := 11) (by omega) rfl (fun σ16 h16 => ?_)
  refine ci_st14 h16 (fun σ17 h17 => ?_)
  refine ca_F h17 (o := 0) (t := 14) (by omega) rfl (fun σ18 h18 => ?_)
  refine ca_A h18 (by omega) (fun σ19 h19 => ?_)
  refine ca_F h19 (o := 0) (t := 17) (by omega) rfl (fun σ20 h20 => ?_)
  refine ci_rk h20 (fun σ21 h21 => ?_)
  refine ca_F h21 (o := 0) (t := 18) (by omega) rfl (fun σ22 h22 => ?_)
  refine ci_rd h22 (fun σ23 h23 => ?_)
  refine ca_F h23 (o := 0) (t := 65) (by omega) rfl (fun σ24 h24 => ?_)
  refine ci_ma h24 (fun σ25 h25 => ?_)
  refine ca_F h25 (o := 0) (t := 75) (by omega) rfl (fun σ26 h26 => ?_)
  obtain ⟨m, hm⟩ : ∃ m, FU = m + 11 := ⟨FU - 11, by unfold FU; omega⟩
  rw [hm]
  rw [n_fX11_init_138]
  refine ca_g h26 (o := 0) (t := 8) (by omega) rfl rfl ?_
  refine ca_l h26 (o := 8) (κ := 104) (n := 10) (by omega) rfl (by omega) ?_
  refine Hx.ce (sm_le (by omega) (by omega)) (fun z => absurd z (by omega)) (fun _ => ?_)
  refine ca_g h26 (o := 0) (t := 8) (by omega) rfl rfl ?_
  refine ca_g h26 (o := 0) (t := 3) (by omega) rfl rfl ?_
  refine ca_Q h26 (o := 8) (j := 0) (t := 3) (n := 10) (by omega) rfl (by omega) (by omega) (by omega) rfl (fun σ27 h27 => ?_)
  refine hx_nm ?_
  rw [sm_add]
  rw [n_fX11_init_138]
  refine ca_g h27 (o := 0) (t := 8) (by omega) rfl rfl ?_
  refine ca_l h27 (o := 8) (κ := 104) (n := 10) (by omega) rfl (by omega) ?_
  refine Hx.ce (sm_le (by omega) (by omega)) (fun z => absurd z (by omega)) (fun _ => ?_)
  refine ca_g h27 (o := 0) (t := 8) (by omega) rfl rfl ?_
  refine ca_g h27 (o := 0) (t := 3) (by omega) rfl rfl ?_
  refine ca_Q h27 (o := 8) (j := 1) (t := 3) (n := 10) (by omega) rfl (by omega) (by omega) (by omega) rfl (fun σ28 h28 => ?_)
  refine hx_nm ?_
  rw [sm_add]
  rw [n_fX11_init_138]
  refine ca_g h28 (o := 0) (t := 8) (by omega) rfl rfl ?_
  refine ca_l h28 (o := 8) (κ := 104) (n := 10) (by omega) rfl (by omega) ?_
  refine Hx.ce (sm_le (by omega) (by omega)) (fun z => absurd z (by omega)) (fun _ => ?_)
  refine ca_g h28 (o := 0) (t := 8) (by omega) rfl rfl ?_
  refine ca_g h28 (o := 0) (t := 3) (by omega) rfl rfl ?_
  refine ca_Q h28 (o := 8) (j := 2) (t := 3) (n := 10) (by omega) rfl (by omega) (by omega) (by omega) rfl (fun σ29 h29 => ?_)
  refine hx_nm ?_
  rw [sm_add]
  rw [n_fX11_init_138]
  refine ca_g h29 (o := 0) (t := 8) (by omega) rfl rfl ?_
  refine ca_l h29 (o := 8) (κ := 104) (n := 10) (by omega) rfl (by omega) ?_
  refine Hx.ce (sm_le (by omega) (by omega)) (fun z => absurd z (by omega)) (fun _ => ?_)
  refine ca_g h29 (o := 0) (t := 8) (by omega) rfl rfl ?_
  refine ca_g h29 (o := 0) (t := 3) (by omega) rfl rfl ?_
  refine ca_Q h29 (o := 8) (j := 3) (t := 3) (n := 10) (by omega) rfl (by omega) (by omega) (by omega) rfl (fun σ30 h30 => ?_)
  refine hx_nm ?_
  rw [sm_add]
  rw [n_fX11_init_138]
  refine ca_g h30 (o := 0) (t := 8) (by omega) rfl rfl ?_
  refine ca_l h30 (o := 8) (κ := 104) (n := 10) (by omega) rfl (by omega) ?_
  refine Hx.ce (sm_le (by omega) (by omega)) (fun z => absurd z (by omega)) (fun _ => ?_)
  refine ca_g h30 (o := 0) (t := 8) (by omega) rfl rfl ?_
  refine ca_g h30 (o := 0) (t := 3) (by omega) rfl rfl ?_
  refine ca_Q h30 (o := 8) (j := 4) (t := 3) (n := 10) (by omega) rfl (by omega) (by omega) (by omega) rfl (fun σ31 h31 => ?_)
  refine hx_nm ?_
  rw [sm_add]
  rw [n_fX11_init_138]
  refine ca_g h31 (o := 0) (t := 8) (by omega) rfl rfl ?_
  refine ca_l h31 (o := 8) (κ := 104) (n := 10) (by omega) rfl (by omega) ?_
  refine Hx.ce (sm_le (by omega) (by omega)) (fun z => absurd z (by omega)) (fun _ => ?_)
  refine ca_g h31 (o := 0) (t := 8) (by omega) rfl rfl ?_
  refine ca_g h31 (o := 0) (t := 3) (by omega) rfl rfl ?_
  refine ca_Q h31 (o := 8) (j := 5) (t := 3) (n := 10) (by omega) rfl (by omega) (by omega) (by omega) rfl (fun σ32 h32 => ?_)
  refine hx_nm ?_
  rw [sm_add]
  rw [n_fX11_init_138]
  refine ca_g h32 (o := 0) (t := 8) (by omega) rfl rfl ?_
  refine ca_l h32 (o := 8) (κ := 104) (n := 10) (by omega) rfl (by omega) ?_
  refine Hx.ce (sm_le (by omega) (by omega)) (fun z => absurd z (by omega)) (fun _ => ?_)
  refine ca_g h32 (o := 0) (t := 8) (by omega) rfl rfl ?_
  refine ca_g h32 (o := 0) (t := 3) (by omega) rfl rfl ?_
  refine ca_Q h32 (o := 8) (j := 6) (t := 3) (n := 10) (by omega) rfl (by omega) (by omega) (by omega) rfl (fun σ33 h33 => ?_)
  refine hx_nm ?_
  rw [sm_add]
  rw [n_fX11_init_138]
  refine ca_g h33 (o := 0) (t := 8) (by omega) rfl rfl ?_
  refine ca_l h33 (o := 8) (κ := 104) (n := 10) (by omega) rfl (by omega) ?_
  refine Hx.ce (sm_le (by omega) (by omega)) (fun z => absurd z (by omega)) (fun _ => ?_)
  refine ca_g h33 (o := 0) (t := 8) (by omega) rfl rfl ?_
  refine ca_g h33 (o := 0) (t := 3) (by omega) rfl rfl ?_
  refine ca_Q h33 (o := 8) (j := 7) (t := 3) (n := 10) (by omega) rfl (by omega) (by omega) (by omega) rfl (fun σ34 h34 => ?_)
  refine hx_nm ?_
  rw [sm_add]
  rw [n_fX11_init_138]
  refine ca_g h34 (o := 0) (t := 8) (by omega) rfl rfl ?_
  refine ca_l h34 (o := 8) (κ := 104) (n := 10) (by omega) rfl (by omega) ?_
  refine Hx.ce (sm_le (by omega) (by omega)) (fun z => absurd z (by omega)) (fun _ => ?_)
  refine ca_g h34 (o := 0) (t := 8) (by omega) rfl rfl ?_
  refine ca_g h34 (o := 0) (t := 3) (by omega) rfl rfl ?_
  refine ca_Q h34 (o := 8) (j := 8) (t := 3) (n := 10) (by omega) rfl (by omega) (by omega) (by omega) rfl (fun σ35 h35 => ?_)
  refine hx_nm ?_
  rw [sm_add]
  rw [n_fX11_init_138]
  refine ca_g h35 (o := 0) (t := 8) (by omega) rfl rfl ?_
  refine ca_l h35 (o := 8) (κ := 104) (n := 10) (by omega) rfl (by omega) ?_
  refine Hx.ce (sm_le (by omega) (by omega)) (fun z => absurd z (by omega)) (fun _ => ?_)
  refine ca_g h35 (o := 0) (t := 8) (by omega) rfl rfl ?_
  refine ca_g h35 (o := 0) (t := 3) (by omega) rfl rfl ?_
  refine ca_Q h35 (o := 8) (j := 9) (t := 3) (n := 10) (by omega) rfl (by omega) (by omega) (by omega) rfl (fun σ36 h36 => ?_)
  refine hx_nm ?_
  rw [sm_add]
  rw [n_fX11_init_138]
  refine ca_g h36 (o := 0) (t := 8) (by omega) rfl rfl ?_
  refine ca_l h36 (o := 8) (κ := 104) (n := 10) (by omega) rfl (by omega) ?_
  refine Hx.ce (sm_le (by omega) (by omega)) (fun _ => ?_) (fun z => absurd z (by omega))
  refine ca_g h36 (o := 0) (t := 17) (by omega) rfl rfl ?_
  refine ci_sta h36 (fun σ37 h37 => ?_)
  refine ca_Q h37 (o := 17) (j := 0) (t := 85) (n := 21) (by omega) rfl (by omega) (by omega) (by omega) rfl (fun σ38 h38 => ?_)
  exact Hx.ret h38
