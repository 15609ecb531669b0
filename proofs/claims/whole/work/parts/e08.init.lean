/-! ===== the class is made: its objects, one after another ===== -/
section
variable {x W : Nat} {σ0 σ : St} {K F Q : L3} {I A : LI} {β : Type} {P : St → β → Prop}
theorem ca_Q {N : Nat} (h : Cst x σ0 N W K F I A Q σ) {ti ci o j n t : Nat} {k : St → Option (St × β)} (ho : o < N) (hκ : lkK K o = (100 + ti, n)) (hj : j < n) (hn : n ≤ 60000) (ht : t < N) (h2 : (lkK K t).1 = ci + 1) (hk : ∀ σ', Cst x σ0 N W K F I A ((o, j, t) :: Q) σ' → Hx (k σ') P) : Hx (Option.bind (stQ σ ti ci (x + o) (nI j) (x + t)) k) P := by
  obtain ⟨h3, h4⟩ := h.2.2.2.1.1 o ho
  rw [hκ] at h3 h4
  rw [stQ_ok h3 (by rw [h4]; exact hj) (by omega) (Or.inr ((h.2.2.2.1.1 t ht).1.trans h2))]
  exact hx_bs (hk _ (cs_wQ h ho))
theorem ca_P {N o : Nat} (h : Cst x σ0 N W K F I A Q σ) {k : Unit → Option (St × β)} (hk : Hx (k ()) P) : Hx (Option.bind (ckP (decide (¬ x + o = 0))) k) P := by
  have hx := h.2.2.2.2.2
  rw [show ckP (decide (¬ x + o = 0)) = some () by rw [decide_eq_true (show ¬ x + o = 0 by omega)]; rfl]
  exact hx_bs hk
theorem ca_natK {N : Nat} (h : Cst x σ0 N W K F I A Q σ) {k : St → Nat → Option (St × β)} (hk : ∀ σ', Cst x σ0 (N + 2) (W + 2 + 4) ((N + 1, 100, 4) :: (N, 8, 0) :: K) ((fid 7 0, N, N + 1) :: F) I A Q σ' → Hx (k σ' (x + N)) P) : Hx (nm (nw 8 0 2 σ) fun σ2 => nm (sz σ) fun a3 => Option.bind (ckK σ2 8 a3) fun _ => cb (fX3_init σ2 a3) fun σ4 _ => k σ4 a3) P := ca_nat h (k := fun a σ4 _ => k σ4 a) hk
theorem ca_fracK {N : Nat} (h : Cst x σ0 N W K F I A Q σ) {k : St → Nat → Option (St × β)} (hk : ∀ σ', Cst x σ0 (N + 5) (W + 15) ((N + 4, 100, 4) :: (N + 3, 8, 0) :: (N + 2, 100, 4) :: (N + 1, 8, 0) :: (N, 6, 0) :: K) ((fid 5 2, N, N + 3) :: (fid 7 0, N + 3, N + 4) :: (fid 5 1, N, N + 1) :: (fid 7 0, N + 1, N + 2) :: F) ((fid 7 1, N + 3, 1) :: I) ((N + 4, 1, 0) :: (N + 4, 0, 1) :: A) Q σ' → Hx (k σ' (x + N)) P) : Hx (nm (nw 6 0 3 σ) fun σ2 => nm (sz σ) fun a3 => Option.bind (ckK σ2 6 a3) fun _ => cb (fX1_init σ2 a3) fun σ4 _ => k σ4 a3) P := ca_frac h (k := fun a σ4 _ => k σ4 a) hk
theorem ci_st11 (h : Cst x σ0 11 W K F I A Q σ) {k : Nat → St → Unit → Option (St × β)} (hk : ∀ σ', Cst x σ0 14 (W + 403) ((13, 104, 200) :: (12, 100, 200) :: (11, 13, 0) :: K) ((fid 12 1, 11, 13) :: (fid 12 0, 11, 12) :: F) (I) (A) (Q) σ' → Hx (k (x + 11) σ' ()) P) : Hx (nm (nw 13 0 3 σ) fun σ2 => nm (sz σ) fun a3 => Option.bind (ckK σ2 13 a3) fun _ => cb (fX8_init σ2 a3) (k a3)) P := by
  refine ca_N h (fun σ1 h1 => ?_)
  refine ca_k h1 (by omega) rfl ?_
  have key : Hx (fX8_init σ1 (x + 11)) (fun σ' (_ : Unit) => Cst x σ0 14 (W + 403) ((13, 104, 200) :: (12, 100, 200) :: (11, 13, 0) :: K) ((fid 12 1, 11, 13) :: (fid 12 0, 11, 12) :: F) (I) (A) (Q) σ') := by
    rw [n_fX8_init]
    refine ca_P h1 ?_
    refine ca_A h1 (by omega) (fun σ2 h2 => ?_)
    refine ca_F h2 (o := 11) (t := 12) (by omega) rfl (fun σ3 h3 => ?_)
    refine ca_A h3 (by omega) (fun σ4 h4 => ?_)
    refine ca_F h4 (o := 11) (t := 13) (by omega) rfl (fun σ5 h5 => ?_)
    exact Hx.ret h5
  exact Hx.bd key (fun σ' _ g => hk σ' g)
theorem ci_st14 (h : Cst x σ0 14 W K F I A Q σ) {k : Nat → St → Unit → Option (St × β)} (hk : ∀ σ', Cst x σ0 17 (W + 403) ((16, 104, 200) :: (15, 100, 200) :: (14, 13, 0) :: K) ((fid 12 1, 14, 16) :: (fid 12 0, 14, 15) :: F) (I) (A) (Q) σ' → Hx (k (x + 14) σ' ()) P) : Hx (nm (nw 13 0 3 σ) fun σ2 => nm (sz σ) fun a3 => Option.bind (ckK σ2 13 a3) fun _ => cb (fX8_init σ2 a3) (k a3)) P := by
  refine ca_N h (fun σ1 h1 => ?_)
  refine ca_k h1 (by omega) rfl ?_
  have key : Hx (fX8_init σ1 (x + 14)) (fun σ' (_ : Unit) => Cst x σ0 17 (W + 403) ((16, 104, 200) :: (15, 100, 200) :: (14, 13, 0) :: K) ((fid 12 1, 14, 16) :: (fid 12 0, 14, 15) :: F) (I) (A) (Q) σ') := by
    rw [n_fX8_init]
    refine ca_P h1 ?_
    refine ca_A h1 (by omega) (fun σ2 h2 => ?_)
    refine ca_F h2 (o := 14) (t := 15) (by omega) rfl (fun σ3 h3 => ?_)
    refine ca_A h3 (by omega) (fun σ4 h4 => ?_)
    refine ca_F h4 (o := 14) (t := 16) (by omega) rfl (fun σ5 h5 => ?_)
    exact Hx.ret h5
  exact Hx.bd key (fun σ' _ g => hk σ' g)
theorem ci_rd (h : Cst x σ0 65 W K F I A Q σ) {k : Nat → St → Unit → Option (St × β)} (hk : ∀ σ', Cst x σ0 75 (W + 1626) ((74, 100, 4) :: (73, 100, 200) :: (72, 100, 200) :: (71, 100, 200) :: (70, 100, 200) :: (69, 100, 201) :: (68, 100, 201) :: (67, 100, 201) :: (66, 100, 200) :: (65, 9, 0) :: K) ((fid 8 16, 65, 74) :: (fid 8 10, 65, 73) :: (fid 8 9, 65, 72) :: (fid 8 8, 65, 71) :: (fid 8 7, 65, 70) :: (fid 8 4, 65, 69) :: (fid 8 3, 65, 68) :: (fid 8 2, 65, 67) :: (fid 8 0, 65, 66) :: F) (I) (A) (Q) σ' → Hx (k (x + 65) σ' ()) P) : Hx (nm (nw 9 0 19 σ) fun σ2 => nm (sz σ) fun a3 => Option.bind (ckK σ2 9 a3) fun _ => cb (fX4_init σ2 a3) (k a3)) P := by
  refine ca_N h (fun σ1 h1 => ?_)
  refine ca_k h1 (by omega) rfl ?_
  have key : Hx (fX4_init σ1 (x + 65)) (fun σ' (_ : Unit) => Cst x σ0 75 (W + 1626) ((74, 100, 4) :: (73, 100, 200) :: (72, 100, 200) :: (71, 100, 200) :: (70, 100, 200) :: (69, 100, 201) :: (68, 100, 201) :: (67, 100, 201) :: (66, 100, 200) :: (65, 9, 0) :: K) ((fid 8 16, 65, 74) :: (fid 8 10, 65, 73) :: (fid 8 9, 65, 72) :: (fid 8 8, 65, 71) :: (fid 8 7, 65, 70) :: (fid 8 4, 65, 69) :: (fid 8 3, 65, 68) :: (fid 8 2, 65, 67) :: (fid 8 0, 65, 66) :: F) (I) (A) (Q) σ') := by
    rw [n_fX4_init]
    refine ca_P h1 ?_
    refine ca_A h1 (by omega) (fun σ2 h2 => ?_)
    refine ca_F h2 (o := 65) (t := 66) (by omega) rfl (fun σ3 h3 => ?_)
    refine ca_A h3 (by omega) (fun σ4 h4 => ?_)
    refine ca_F h4 (o := 65) (t := 67) (by omega) rfl (fun σ5 h5 => ?_)
    refine ca_A h5 (by omega) (fun σ6 h6 => ?_)
    refine ca_F h6 (o := 65) (t := 68) (by omega) rfl (fun σ7 h7 => ?_)
    refine ca_A h7 (by omega) (fun σ8 h8 => ?_)
    refine ca_F h8 (o := 65) (t := 69) (by omega) rfl (fun σ9 h9 => ?_)
    refine ca_A h9 (by omega) (fun σ10 h10 => ?_)
    refine ca_F h10 (o := 65) (t := 70) (by omega) rfl (fun σ11 h11 => ?_)
    refine ca_A h11 (by omega) (fun σ12 h12 => ?_)
    refine ca_F h12 (o := 65) (t := 71) (by omega) rfl (fun σ13 h13 => ?_)
    refine ca_A h13 (by omega) (fun σ14 h14 => ?_)
    refine ca_F h14 (o := 65) (t := 72) (by omega) rfl (fun σ15 h15 => ?_)
    refine ca_A h15 (by omega) (fun σ16 h16 => ?_)
    refine ca_F h16 (o := 65) (t := 73) (by omega) rfl (fun σ17 h17 => ?_)
    refine ca_A h17 (by omega) (fun σ18 h18 => ?_)
    refine ca_F h18 (o := 65) (t := 74) (by omega) rfl (fun σ19 h19 => ?_)
    exact Hx.ret h19
  exact Hx.bd key (fun σ' _ g => hk σ' g)
theorem ci_ma (h : Cst x σ0 75 W K F I A Q σ) {k : Nat → St → Unit → Option (St × β)} (hk : ∀ σ', Cst x σ0 85 (W + 1057) ((84, 100, 4) :: (83, 8, 0) :: (82, 100, 4) :: (81, 8, 0) :: (80, 6, 0) :: (79, 100, 11) :: (78, 100, 11) :: (77, 107, 11) :: (76, 104, 1000) :: (75, 7, 0) :: K) ((fid 6 8, 75, 80) :: (fid 5 2, 80, 83) :: (fid 7 0, 83, 84) :: (fid 5 1, 80, 81) :: (fid 7 0, 81, 82) :: (fid 6 4, 75, 79) :: (fid 6 3, 75, 78) :: (fid 6 2, 75, 77) :: (fid 6 0, 75, 76) :: F) ((fid 7 1, 83, 1) :: I) ((84, 1, 0) :: (84, 0, 1) :: A) (Q) σ' → Hx (k (x + 75) σ' ()) P) : Hx (nm (nw 7 0 9 σ) fun σ2 => nm (sz σ) fun a3 => Option.bind (ckK σ2 7 a3) fun _ => cb (fX2_init σ2 a3) (k a3)) P := by
  refine ca_N h (fun σ1 h1 => ?_)
  refine ca_k h1 (by omega) rfl ?_
  have key : Hx (fX2_init σ1 (x + 75)) (fun σ' (_ : Unit) => Cst x σ0 85 (W + 1057) ((84, 100, 4) :: (83, 8, 0) :: (82, 100, 4) :: (81, 8, 0) :: (80, 6, 0) :: (79, 100, 11) :: (78, 100, 11) :: (77, 107, 11) :: (76, 104, 1000) :: (75, 7, 0) :: K) ((fid 6 8, 75, 80) :: (fid 5 2, 80, 83) :: (fid 7 0, 83, 84) :: (fid 5 1, 80, 81) :: (fid 7 0, 81, 82) :: (fid 6 4, 75, 79) :: (fid 6 3, 75, 78) :: (fid 6 2, 75, 77) :: (fid 6 0, 75, 76) :: F) ((fid 7 1, 83, 1) :: I) ((84, 1, 0) :: (84, 0, 1) :: A) (Q) σ') := by
    rw [n_fX2_init]
    refine ca_P h1 ?_
    refine ca_A h1 (by omega) (fun σ2 h2 => ?_)
    refine ca_F h2 (o := 75) (t := 76) (by omega) rfl (fun σ3 h3 => ?_)
    refine ca_A h3 (by omega) (fun σ4 h4 => ?_)
    refine ca_F h4 (o := 75) (t := 77) (by omega) rfl (fun σ5 h5 => ?_)
    refine ca_A h5 (by omega) (fun σ6 h6 => ?_)
    refine ca_F h6 (o := 75) (t := 78) (by omega) rfl (fun σ7 h7 => ?_)
    refine ca_A h7 (by omega) (fun σ8 h8 => ?_)
    refine ca_F h8 (o := 75) (t := 79) (by omega) rfl (fun σ9 h9 => ?_)
    refine ca_fracK h9 (fun σ10 h10 => ?_)
    refine ca_F h10 (o := 75) (t := 80) (by omega) rfl (fun σ11 h11 => ?_)
    exact Hx.ret h11
  exact Hx.bd key (fun σ' _ g => hk σ' g)
theorem ci_rk (h : Cst x σ0 18 W K F I A Q σ) {k : Nat → St → Unit → Option (St × β)} (hk : ∀ σ', Cst x σ0 65 (W + 155) ((64, 100, 4) :: (63, 8, 0) :: (62, 100, 4) :: (61, 8, 0) :: (60, 6, 0) :: (59, 100, 4) :: (58, 8, 0) :: (57, 100, 4) :: (56, 8, 0) :: (55, 6, 0) :: (54, 100, 4) :: (53, 8, 0) :: (52, 100, 4) :: (51, 8, 0) :: (50, 6, 0) :: (49, 100, 4) :: (48, 8, 0) :: (47, 100, 4) :: (46, 8, 0) :: (45, 6, 0) :: (44, 100, 4) :: (43, 8, 0) :: (42, 100, 4) :: (41, 8, 0) :: (40, 100, 4) :: (39, 8, 0) :: (38, 100, 4) :: (37, 8, 0) :: (36, 100, 4) :: (35, 8, 0) :: (34, 100, 4) :: (33, 8, 0) :: (32, 100, 4) :: (31, 8, 0) :: (30, 100, 4) :: (29, 8, 0) :: (28, 100, 4) :: (27, 8, 0) :: (26, 100, 4) :: (25, 8, 0) :: (24, 100, 4) :: (23, 8, 0) :: (22, 100, 4) :: (21, 8, 0) :: (20, 100, 4) :: (19, 8, 0) :: (18, 10, 0) :: K) ((fid 9 16, 18, 60) :: (fid 5 2, 60, 63) :: (fid 7 0, 63, 64) :: (fid 5 1, 60, 61) :: (fid 7 0, 61, 62) :: (fid 9 15, 18, 55) :: (fid 5 2, 55, 58) :: (fid 7 0, 58, 59) :: (fid 5 1, 55, 56) :: (fid 7 0, 56, 57) :: (fid 9 14, 18, 50) :: (fid 5 2, 50, 53) :: (fid 7 0, 53, 54) :: (fid 5 1, 50, 51) :: (fid 7 0, 51, 52) :: (fid 9 13, 18, 45) :: (fid 5 2, 45, 48) :: (fid 7 0, 48, 49) :: (fid 5 1, 45, 46) :: (fid 7 0, 46, 47) :: (fid 9 12, 18, 43) :: (fid 7 0, 43, 44) :: (fid 9 11, 18, 41) :: (fid 7 0, 41, 42) :: (fid 9 10, 18, 39) :: (fid 7 0, 39, 40) :: (fid 9 9, 18, 37) :: (fid 7 0, 37, 38) :: (fid 9 8, 18, 35) :: (fid 7 0, 35, 36) :: (fid 9 7, 18, 33) :: (fid 7 0, 33, 34) :: (fid 9 6, 18, 31) :: (fid 7 0, 31, 32) :: (fid 9 5, 18, 29) :: (fid 7 0, 29, 30) :: (fid 9 4, 18, 27) :: (fid 7 0, 27, 28) :: (fid 9 3, 18, 25) :: (fid 7 0, 25, 26) :: (fid 9 2, 18, 23) :: (fid 7 0, 23, 24) :: (fid 9 1, 18, 21) :: (fid 7 0, 21, 22) :: (fid 9 0, 18, 19) :: (fid 7 0, 19, 20) :: F) ((fid 7 1, 63, 1) :: (fid 7 1, 58, 1) :: (fid 7 1, 53, 1) :: (fid 7 1, 48, 1) :: I) ((64, 1, 0) :: (64, 0, 1) :: (59, 1, 0) :: (59, 0, 1) :: (54, 1, 0) :: (54, 0, 1) :: (49, 1, 0) :: (49, 0, 1) :: A) (Q) σ' → Hx (k (x + 18) σ' ()) P) : Hx (nm (nw 10 0 17 σ) fun σ2 => nm (sz σ) fun a3 => Option.bind (ckK σ2 10 a3) fun _ => cb (fX5_init σ2 a3) (k a3)) P := by
  refine ca_N h (fun σ1 h1 => ?_)
  refine ca_k h1 (by omega) rfl ?_
  have key : Hx (fX5_init σ1 (x + 18)) (fun σ' (_ : Unit) => Cst x σ0 65 (W + 155) ((64, 100, 4) :: (63, 8, 0) :: (62, 100, 4) :: (61, 8, 0) :: (60, 6, 0) :: (59, 100, 4) :: (58, 8, 0) :: (57, 100, 4) :: (56, 8, 0) :: (55, 6, 0) :: (54, 100, 4) :: (53, 8, 0) :: (52, 100, 4) :: (51, 8, 0) :: (50, 6, 0) :: (49, 100, 4) :: (48, 8, 0) :: (47, 100, 4) :: (46, 8, 0) :: (45, 6, 0) :: (44, 100, 4) :: (43, 8, 0) :: (42, 100, 4) :: (41, 8, 0) :: (40, 100, 4) :: (39, 8, 0) :: (38, 100, 4) :: (37, 8, 0) :: (36, 100, 4) :: (35, 8, 0) :: (34, 100, 4) :: (33, 8, 0) :: (32, 100, 4) :: (31, 8, 0) :: (30, 100, 4) :: (29, 8, 0) :: (28, 100, 4) :: (27, 8, 0) :: (26, 100, 4) :: (25, 8, 0) :: (24, 100, 4) :: (23, 8, 0) :: (22, 100, 4) :: (21, 8, 0) :: (20, 100, 4) :: (19, 8, 0) :: (18, 10, 0) :: K) ((fid 9 16, 18, 60) :: (fid 5 2, 60, 63) :: (fid 7 0, 63, 64) :: (fid 5 1, 60, 61) :: (fid 7 0, 61, 62) :: (fid 9 15, 18, 55) :: (fid 5 2, 55, 58) :: (fid 7 0, 58, 59) :: (fid 5 1, 55, 56) :: (fid 7 0, 56, 57) :: (fid 9 14, 18, 50) :: (fid 5 2, 50, 53) :: (fid 7 0, 53, 54) :: (fid 5 1, 50, 51) :: (fid 7 0, 51, 52) :: (fid 9 13, 18, 45) :: (fid 5 2, 45, 48) :: (fid 7 0, 48, 49) :: (fid 5 1, 45, 46) :: (fid 7 0, 46, 47) :: (fid 9 12, 18, 43) :: (fid 7 0, 43, 44) :: (fid 9 11, 18, 41) :: (fid 7 0, 41, 42) :: (fid 9 10, 18, 39) :: (fid 7 0, 39, 40) :: (fid 9 9, 18, 37) :: (fid 7 0, 37, 38) :: (fid 9 8, 18, 35) :: (fid 7 0, 35, 36) :: (fid 9 7, 18, 33) :: (fid 7 0, 33, 34) :: (fid 9 6, 18, 31) :: (fid 7 0, 31, 32) :: (fid 9 5, 18, 29) :: (fid 7 0, 29, 30) :: (fid 9 4, 18, 27) :: (fid 7 0, 27, 28) :: (fid 9 3, 18, 25) :: (fid 7 0, 25, 26) :: (fid 9 2, 18, 23) :: (fid 7 0, 23, 24) :: (fid 9 1, 18, 21) :: (fid 7 0, 21, 22) :: (fid 9 0, 18, 19) :: (fid 7 0, 19, 20) :: F) ((fid 7 1, 63, 1) :: (fid 7 1, 58, 1) :: (fid 7 1, 53, 1) :: (fid 7 1, 48, 1) :: I) ((64, 1, 0) :: (64, 0, 1) :: (59, 1, 0) :: (59, 0, 1) :: (54, 1, 0) :: (54, 0, 1) :: (49, 1, 0) :: (49, 0, 1) :: A) (Q) σ') := by
    rw [n_fX5_init]
    refine ca_P h1 ?_
    refine ca_natK h1 (fun σ2 h2 => ?_)
    refine ca_F h2 (o := 18) (t := 19) (by omega) rfl (fun σ3 h3 => ?_)
    refine ca_natK h3 (fun σ4 h4 => ?_)
    refine ca_F h4 (o := 18) (t := 21) (by omega) rfl (fun σ5 h5 => ?_)
    refine ca_natK h5 (fun σ6 h6 => ?_)
    refine ca_F h6 (o := 18) (t := 23) (by omega) rfl (fun σ7 h7 => ?_)
    refine ca_natK h7 (fun σ8 h8 => ?_)
    refine ca_F h8 (o := 18) (t := 25) (by omega) rfl (fun σ9 h9 => ?_)
    refine ca_natK h9 (fun σ10 h10 => ?_)
    refine ca_F h10 (o := 18) (t := 27) (by omega) rfl (fun σ11 h11 => ?_)
    refine ca_natK h11 (fun σ12 h12 => ?_)
    refine ca_F h12 (o := 18) (t := 29) (by omega) rfl (fun σ13 h13 => ?_)
    refine ca_natK h13 (fun σ14 h14 => ?_)
    refine ca_F h14 (o := 18) (t := 31) (by omega) rfl (fun σ15 h15 => ?_)
    refine ca_natK h15 (fun σ16 h16 => ?_)
    refine ca_F h16 (o := 18) (t := 33) (by omega) rfl (fun σ17 h17 => ?_)
    refine ca_natK h17 (fun σ18 h18 => ?_)
    refine ca_F h18 (o := 18) (t := 35) (by omega) rfl (fun σ19 h19 => ?_)
    refine ca_natK h19 (fun σ20 h20 => ?_)
    refine ca_F h20 (o := 18) (t := 37) (by omega) rfl (fun σ21 h21 => ?_)
    refine ca_natK h21 (fun σ22 h22 => ?_)
    refine ca_F h22 (o := 18) (t := 39) (by omega) rfl (fun σ23 h23 => ?_)
    refine ca_natK h23 (fun σ24 h24 => ?_)
    refine ca_F h24 (o := 18) (t := 41) (by omega) rfl (fun σ25 h25 => ?_)
    refine ca_natK h25 (fun σ26 h26 => ?_)
    refine ca_F h26 (o := 18) (t := 43) (by omega) rfl (fun σ27 h27 => ?_)
    refine ca_fracK h27 (fun σ28 h28 => ?_)
    refine ca_F h28 (o := 18) (t := 45) (by omega) rfl (fun σ29 h29 => ?_)
    refine ca_fracK h29 (fun σ30 h30 => ?_)
    refine ca_F h30 (o := 18) (t := 50) (by omega) rfl (fun σ31 h31 => ?_)
    refine ca_fracK h31 (fun σ32 h32 => ?_)
    refine ca_F h32 (o := 18) (t := 55) (by omega) rfl (fun σ33 h33 => ?_)
    refine ca_fracK h33 (fun σ34 h34 => ?_)
    refine ca_F h34 (o := 18) (t := 60) (by omega) rfl (fun σ35 h35 => ?_)
    exact Hx.ret h35
  exact Hx.bd key (fun σ' _ g => hk σ' g)
end
