/-! ===== the class is made: the whole constructor ===== -/
section
variable {x W : Nat} {σ0 σ : St} {K F Q : L3} {I A : LI} {β : Type} {P : St → β → Prop}
theorem ca_row {N r : Nat} (h : Cst x σ0 N W K F I A Q σ) {k : St → Unit → Option (St × β)} (hr : r < N) (hκ : (lkK K r).1 = 11) (hk : ∀ σ', Cst x σ0 (N + 1) (W + 0) ((N, 100 + 4, 0) :: K) ((fid 10 0, r, N) :: F) I A Q σ' → Hx (k σ' ()) P) : Hx (cb (fX6_init σ (x + r) (nI 0)) k) P := by
  have key : Hx (fX6_init σ (x + r) (nI 0)) (fun σ' (_ : Unit) => Cst x σ0 (N + 1) (W + 0) ((N, 100 + 4, 0) :: K) ((fid 10 0, r, N) :: F) I A Q σ') := by
    rw [n_fX6_init]
    refine ca_P h ?_
    rw [if_neg (show ¬ nI 0 < nI 0 by decide)]
    refine ca_A h (by omega) (fun τ1 g1 => ?_)
    refine ca_F g1 (o := r) (t := N) (by omega) (by rw [lkK_c, if_neg (by omega)]; exact hκ) (fun τ2 g2 => ?_)
    exact Hx.ret g2
  exact Hx.bd key (fun σ' _ g => hk σ' g)
theorem ci_sb (h : Cst x σ0 9 W K F I A Q σ) {k : Nat → St → Unit → Option (St × β)} (hk : ∀ σ', Cst x σ0 11 (W + 20) ((10, 101, 16) :: (9, 2, 0) :: K) ((fid 1 0, 9, 10) :: F) ((fid 1 1, 9, 0) :: I) (A) (Q) σ' → Hx (k (x + 9) σ' ()) P) : Hx (nm (nw 2 0 4 σ) fun σ2 => nm (sz σ) fun a3 => Option.bind (ckK σ2 2 a3) fun _ => cb (fJ4_init_da8c8 σ2 a3) (k a3)) P := by
  refine ca_N h (fun σ1 h1 => ?_)
  refine ca_k h1 (by omega) rfl ?_
  have key : Hx (fJ4_init_da8c8 σ1 (x + 9)) (fun σ' (_ : Unit) => Cst x σ0 11 (W + 20) ((10, 101, 16) :: (9, 2, 0) :: K) ((fid 1 0, 9, 10) :: F) ((fid 1 1, 9, 0) :: I) (A) (Q) σ') := by
    rw [n_fJ4_init_da8c8]
    refine ca_k h1 (o := 9) (by omega) rfl ?_
    rw [n_fJ5_init_d00df]
    have key2 : Hx (Option.bind (ckP (decide (¬ x + 9 = 0))) fun _ => if nI 1 = nI 0 then none else Option.bind (nwA 1 (nI 16) σ1) fun σ3 => nm (sz σ1) fun a4 => Option.bind (pF σ3 1 0 (x + 9) a4) fun σ5 => Option.bind (pI σ5 1 1 (x + 9) (nI 0)) fun σ6 => some (σ6, ())) (fun σ' (_ : Unit) => Cst x σ0 11 (W + 20) ((10, 101, 16) :: (9, 2, 0) :: K) ((fid 1 0, 9, 10) :: F) ((fid 1 1, 9, 0) :: I) (A) (Q) σ') := by
      refine ca_P h1 (Hx.cs (fun z => absurd z (by decide)) (fun _ => ?_))
      refine ca_A h1 (by omega) (fun σ2 h2 => ?_)
      refine ca_F h2 (o := 9) (t := 10) (by omega) rfl (fun σ3 h3 => ?_)
      refine ca_I h3 (o := 9) (v := 0) (by omega) rfl (fun σ4 h4 => ?_)
      exact Hx.ret h4
    exact Hx.bd key2 (fun σ' _ g => Hx.ret g)
  exact Hx.bd key (fun σ' _ g => hk σ' g)
theorem ci_bk (h : Cst x σ0 89 (W + 4) ((88, 108, 0) :: (87, 108, 0) :: (86, 5, 0) :: K) (F) (I) (A) (Q) σ) : Hx (fX0_init σ (x + 86) (x + 87) (x + 88)) (fun σ' (_ : Unit) => Cst x σ0 91 (W + 4) ((90, 100, 0) :: (89, 100, 0) :: (88, 108, 0) :: (87, 108, 0) :: (86, 5, 0) :: K) ((fid 4 3, 86, 90) :: (fid 4 2, 86, 89) :: (fid 4 1, 86, 88) :: (fid 4 0, 86, 87) :: F) (I) (A) (Q) σ') := by
  have h1 := h
  rw [n_fX0_init]
  refine ca_P h1 ?_
  refine ca_F h1 (o := 86) (t := 87) (by omega) rfl (fun σ2 h2 => ?_)
  refine ca_F h2 (o := 86) (t := 88) (by omega) rfl (fun σ3 h3 => ?_)
  refine ca_l h3 (o := 87) (κ := 108) (n := 0) (by omega) rfl (by omega) ?_
  refine ca_l h3 (o := 88) (κ := 108) (n := 0) (by omega) rfl (by omega) ?_
  rw [sm_add]
  refine ca_A h3 (by omega) (fun σ4 h4 => ?_)
  refine ca_F h4 (o := 86) (t := 89) (by omega) rfl (fun σ5 h5 => ?_)
  refine ca_l h5 (o := 87) (κ := 108) (n := 0) (by omega) rfl (by omega) ?_
  refine ca_l h5 (o := 88) (κ := 108) (n := 0) (by omega) rfl (by omega) ?_
  rw [sm_add]
  refine ca_A h5 (by omega) (fun σ6 h6 => ?_)
  refine ca_F h6 (o := 86) (t := 90) (by omega) rfl (fun σ7 h7 => ?_)
  exact Hx.ret h7
theorem ci_sta (h : Cst x σ0 85 W K F I A Q σ) {k : Nat → St → Unit → Option (St × β)} (hk : ∀ σ', Cst x σ0 98 (W + 12) ((97, 104, 0) :: (96, 11, 0) :: (95, 104, 0) :: (94, 11, 0) :: (93, 104, 0) :: (92, 11, 0) :: (91, 105, 3) :: (90, 100, 0) :: (89, 100, 0) :: (88, 108, 0) :: (87, 108, 0) :: (86, 5, 0) :: (85, 12, 0) :: K) ((fid 10 0, 96, 97) :: (fid 10 0, 94, 95) :: (fid 10 0, 92, 93) :: (fid 11 1, 85, 91) :: (fid 11 0, 85, 86) :: (fid 4 3, 86, 90) :: (fid 4 2, 86, 89) :: (fid 4 1, 86, 88) :: (fid 4 0, 86, 87) :: F) (I) (A) ((91, 2, 96) :: (91, 1, 94) :: (91, 0, 92) :: Q) σ' → Hx (k (x + 85) σ' ()) P) : Hx (nm (nw 12 0 2 σ) fun σ2 => nm (sz σ) fun a3 => Option.bind (ckK σ2 12 a3) fun _ => cb (fX7_init σ2 a3) (k a3)) P := by
  refine ca_N h (fun σ1 h1 => ?_)
  refine ca_k h1 (by omega) rfl ?_
  have key : Hx (fX7_init σ1 (x + 85)) (fun σ' (_ : Unit) => Cst x σ0 98 (W + 12) ((97, 104, 0) :: (96, 11, 0) :: (95, 104, 0) :: (94, 11, 0) :: (93, 104, 0) :: (92, 11, 0) :: (91, 105, 3) :: (90, 100, 0) :: (89, 100, 0) :: (88, 108, 0) :: (87, 108, 0) :: (86, 5, 0) :: (85, 12, 0) :: K) ((fid 10 0, 96, 97) :: (fid 10 0, 94, 95) :: (fid 10 0, 92, 93) :: (fid 11 1, 85, 91) :: (fid 11 0, 85, 86) :: (fid 4 3, 86, 90) :: (fid 4 2, 86, 89) :: (fid 4 1, 86, 88) :: (fid 4 0, 86, 87) :: F) (I) (A) ((91, 2, 96) :: (91, 1, 94) :: (91, 0, 92) :: Q) σ') := by
    rw [n_fX7_init]
    refine ca_P h1 ?_
    refine ca_N h1 (fun σ2 h2 => ?_)
    refine ca_A h2 (by omega) (fun σ3 h3 => ?_)
    refine ca_A h3 (by omega) (fun σ4 h4 => ?_)
    refine ca_k h4 (o := 86) (by omega) rfl ?_
    refine Hx.bd (ci_bk h4) (fun σ5 _ h5 => ?_)
    refine ca_F h5 (o := 85) (t := 86) (by omega) rfl (fun σ6 h6 => ?_)
    refine ca_A h6 (by omega) (fun σ7 h7 => ?_)
    refine ca_F h7 (o := 85) (t := 91) (by omega) rfl (fun σ8 h8 => ?_)
    obtain ⟨m, hm⟩ : ∃ m, FU = m + 4 := ⟨FU - 4, by unfold FU; omega⟩
    rw [hm]
    rw [n_fX7_init_33]
    refine ca_g h8 (o := 85) (t := 91) (by omega) rfl rfl ?_
    refine ca_l h8 (o := 91) (κ := 105) (n := 3) (by omega) rfl (by omega) ?_
    refine Hx.ce (sm_le (by omega) (by omega)) (fun z => absurd z (by omega)) (fun _ => ?_)
    refine ca_g h8 (o := 85) (t := 91) (by omega) rfl rfl ?_
    refine ca_N h8 (fun σ9 h9 => ?_)
    refine ca_k h9 (o := 92) (by omega) rfl ?_
    refine ca_row h9 (r := 92) (by omega) rfl (fun σ10 h10 => ?_)
    refine ca_Q h10 (o := 91) (j := 0) (t := 92) (n := 3) (by omega) rfl (by omega) (by omega) (by omega) rfl (fun σ11 h11 => ?_)
    refine hx_nm ?_
    rw [sm_add]
    rw [n_fX7_init_33]
    refine ca_g h11 (o := 85) (t := 91) (by omega) rfl rfl ?_
    refine ca_l h11 (o := 91) (κ := 105) (n := 3) (by omega) rfl (by omega) ?_
    refine Hx.ce (sm_le (by omega) (by omega)) (fun z => absurd z (by omega)) (fun _ => ?_)
    refine ca_g h11 (o := 85) (t := 91) (by omega) rfl rfl ?_
    refine ca_N h11 (fun σ12 h12 => ?_)
    refine ca_k h12 (o := 94) (by omega) rfl ?_
    refine ca_row h12 (r := 94) (by omega) rfl (fun σ13 h13 => ?_)
    refine ca_Q h13 (o := 91) (j := 1) (t := 94) (n := 3) (by omega) rfl (by omega) (by omega) (by omega) rfl (fun σ14 h14 => ?_)
    refine hx_nm ?_
    rw [sm_add]
    rw [n_fX7_init_33]
    refine ca_g h14 (o := 85) (t := 91) (by omega) rfl rfl ?_
    refine ca_l h14 (o := 91) (κ := 105) (n := 3) (by omega) rfl (by omega) ?_
    refine Hx.ce (sm_le (by omega) (by omega)) (fun z => absurd z (by omega)) (fun _ => ?_)
    refine ca_g h14 (o := 85) (t := 91) (by omega) rfl rfl ?_
    refine ca_N h14 (fun σ15 h15 => ?_)
    refine ca_k h15 (o := 96) (by omega) rfl ?_
    refine ca_row h15 (r := 96) (by omega) rfl (fun σ16 h16 => ?_)
    refine ca_Q h16 (o := 91) (j := 2) (t := 96) (n := 3) (by omega) rfl (by omega) (by omega) (by omega) rfl (fun σ17 h17 => ?_)
    refine hx_nm ?_
    rw [sm_add]
    rw [n_fX7_init_33]
    refine ca_g h17 (o := 85) (t := 91) (by omega) rfl rfl ?_
    refine ca_l h17 (o := 91) (κ := 105) (n := 3) (by omega) rfl (by omega) ?_
    refine Hx.ce (sm_le (by omega) (by omega)) (fun _ => ?_) (fun z => absurd z (by omega))
    exact Hx.ret h17
  exact Hx.bd key (fun σ' _ g => hk σ' g)
end
