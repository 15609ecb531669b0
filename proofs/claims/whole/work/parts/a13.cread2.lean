/-! ===== the class' Reader reads a line ===== -/
theorem FX.wf {σ : St} {a n d f b v : Nat} {s : Int} (h : FX σ a s n d) (h1 : fid 5 1 ≠ f) (h2 : fid 5 2 ≠ f) (h3 : fid 7 0 ≠ f) : FX (wF σ f b v) a s n d := by
  have hn : ∀ c y, Nt σ c y → Nt (wF σ f b v) c y := by
    rintro c y ⟨l, n, w, ⟨g1, g2, g3⟩, g4⟩
    exact ⟨l, n, w, ⟨g1, (sF_wF_f h3).trans g2, g3⟩, g4⟩
  exact ⟨⟨h.1.1, ⟨(sF_wF_f h1).trans h.1.2.1.1, (sF_wF_f h2).trans h.1.2.1.2⟩, h.1.2.2⟩, h.2.1, hn _ _ h.2.2.1, hn _ _ h.2.2.2⟩
theorem KF.wf {σ : St} {x a f b v : Nat} {q : Qv} (h : KF σ x a q) (h1 : fid 5 1 ≠ f) (h2 : fid 5 2 ≠ f) (h3 : fid 7 0 ≠ f) : KF (wF σ f b v) x a q := ⟨h.1, h.2.1, h.2.2.1, h.2.2.2.wf h1 h2 h3⟩
theorem KA.wf {σ : St} {x a n f b v : Nat} (h : KA σ x a n) (h3 : fid 7 0 ≠ f) : KA (wF σ f b v) x a n :=
  ⟨h.1, h.2.1, h.2.2.1, fun c hc e => h.2.2.2 c hc ((sF_wF_f (σ := σ) (a := b) (v := v) h3).symm.trans e)⟩
theorem nwA_k {σ : St} {ti m : Nat} (hm : m ≤ 60000000) : nwA ti (nI m) σ = some (nw (100 + ti) m m σ) := by
  unfold nwA
  rw [sm_clamp (by omega), if_pos]
  refine ⟨?_, hm⟩
  show ¬ nI m < nI 0
  rw [sm_lt (by omega) (by omega)]
  omega
def prn (t : List Nat) : Nat := match hdf t with
  | .inl _ => 0
  | .inr p => p.2.length
/-- what the reader answers, and what is read -/
def Rdo (x : Nat) (t : List Nat) (σ σ' : St) (v : Int32) : Prop :=
  (∃ i, Rdd t (.inl i) ∧ v = nI (tk t i).2.2.1 ∧ (tk t i).2.2.1 ≤ 200 ∧ cW x (sRd x) 0 0 σ σ' ∧ ∃ w wp, Wpo σ' x w wp) ∨
  ∃ l, Rdd t (.inr l) ∧ v = iz (-1) ∧ l.length ≤ t.length ∧ cW x (sRr x) (5 + 20 * l.length) (6 + 5 * l.length) σ σ' ∧ (∀ it ∈ l, iok t it) ∧ ∃ w wp, Wpo σ' x w wp ∧ (frm t ≠ 0 → w = (tk t 0).2.1 ∧ wp = (tk t 0).2.2.1) ∧ Ln σ' x (frm t) w wp (prn t) l
theorem rd_97 {σ : St} {x n i nc : Nat} {t ps : List Nat} {L : List It} (h : RP σ x t ps n i L nc) : fX4_read_97 σ (x + 65) = some (σ, nI (tk t i).2.2.1) := by
  obtain ⟨g1, g2, g3, g4⟩ := h.g
  apply hx_eq
  try rw [n_fX4_read_97, g1]
  refine hx_bs ?_
  try rw [g4]
  refine hx_bs ?_
  try rw [cp_start h.1 h.2.1.2]
  exact hx_cs (Hx.ret ⟨rfl, rfl⟩)
theorem rd_sum {x n i w wp : Nat} {t ps : List Nat} {L : List It} {σ σ1 : St} (h0 : cW x (sRd x) 0 0 σ σ1) (hQ : SQ σ1 x) (h : RP σ1 x t ps n i L (cnv L)) (hL : L.length ≤ 200) (hLt : L.length ≤ t.length) (hok : ∀ it ∈ L, iok t it) (hr : Rdd t (.inr L)) (hpr : prn t = ps.length) (hF : sI σ1 (fid 8 13) (x + 65) = nI (frm t)) (hW : Wpo σ1 x w wp) (hww : frm t ≠ 0 → w = (tk t 0).2.1 ∧ wp = (tk t 0).2.2.1) :
    Hx (nm (nw 14 0 5 σ1) fun σ23 => nm (sz σ1) fun a24 => Option.bind (gF σ23 8 7 (x + 65)) fun v25 => Option.bind (gI σ23 8 11 (x + 65)) fun v26 => cb (fJ7_copyOf_59c91 σ23 v25 v26) fun σ27 a28 => Option.bind (gF σ27 8 8 (x + 65)) fun v29 => Option.bind (gI σ27 8 11 (x + 65)) fun v30 => cb (fJ7_copyOf_59c91 σ27 v29 v30) fun σ31 a32 => Option.bind (gF σ31 8 9 (x + 65)) fun v33 => Option.bind (gI σ31 8 11 (x + 65)) fun v34 => cb (fJ7_copyOf_59c91 σ31 v33 v34) fun σ35 a36 => Option.bind (gF σ35 8 10 (x + 65)) fun v37 => Option.bind (gI σ35 8 11 (x + 65)) fun v38 => cb (fJ7_copyOf_59c91 σ35 v37 v38) fun σ39 a40 => Option.bind (ckK σ39 9 (x + 65)) fun _ => cb (fX4_readNumbers σ39 (x + 65) (x + 18)) fun σ41 a42 => Option.bind (ckK σ41 14 a24) fun _ => cb (fX9_init σ41 a24 a28 a32 a36 a40 a42) fun σ44 v45 => Option.bind (pF σ44 8 18 (x + 65) a24) fun σ47 => some (σ47, ((iz (-1)))))
      (Rdo x t σ) := by
  obtain ⟨⟨⟨hx, hkw⟩, ⟨ht, hrk, hnt⟩, hpm⟩, hi, l1, l2, l3⟩ := id h
  have hl : RLs σ1 x L := ⟨l1, l2, l3⟩
  have hnl := cnv_le L
  have hp := h0.hp
  have hzx : x + 144 ≤ sz σ1 := hx.1.2
  refine hx_nm (hx_nm ?_)
  have hF1 := cW.nw (x := x) (κ := 14) (n := 0) (w := 5) hp (by omega)
  have z1 : sz (nw 14 0 5 σ1) = sz σ1 + 1 := rfl
  have k14 : sK (nw 14 0 5 σ1) (sz σ1) = 14 := if_pos rfl
  have hx1 := hx.kW hF1
  have hl1 := hl.kW hF1 hx (fun _ _ _ h => h)
  have ht1 := ht.kW hF1 hx (fun h => h) (fun h => h)
  generalize nw 14 0 5 σ1 = σ2 at *
  try rw [xf_8_7 hx1]
  refine hx_bs ?_
  try rw [(sm_gI hx1.k9).trans (congrArg some hl1.1)]
  refine hx_bs ?_
  refine Hx.bd (cx_copyOf hF1.hp hx1 (hx1.kd 70 100 (by decide)) (hx1.nn 70 200 (by decide)) hL (by omega)) (fun σ3 a3 h3 => ?_)
  obtain ⟨e3, hF3, hA3, g3⟩ := h3
  have z3 := hF3.2.1.1
  have hx3 := hx1.kW hF3
  have hl3 := hl1.kW hF3 hx1 (fun _ _ _ h => h)
  have ht3 := ht1.kW hF3 hx1 (fun h => h) (fun h => h)
  have k143 := hF3.k k14 (by omega)
  try rw [xf_8_8 hx3]
  refine hx_bs ?_
  try rw [(sm_gI hx3.k9).trans (congrArg some hl3.1)]
  refine hx_bs ?_
  refine Hx.bd (cx_copyOf hF3.hp hx3 (hx3.kd 71 100 (by decide)) (hx3.nn 71 200 (by decide)) hL (by omega)) (fun σ4 a4 h4 => ?_)
  obtain ⟨e4, hF4, hA4, g4⟩ := h4
  have z4 := hF4.2.1.1
  have hx4 := hx3.kW hF4
  have hl4 := hl3.kW hF4 hx3 (fun _ _ _ h => h)
  have ht4 := ht3.kW hF4 hx3 (fun h => h) (fun h => h)
  have k144 := hF4.k k143 (by omega)
  try rw [xf_8_9 hx4]
  refine hx_bs ?_
  try rw [(sm_gI hx4.k9).trans (congrArg some hl4.1)]
  refine hx_bs ?_
  refine Hx.bd (cx_copyOf hF4.hp hx4 (hx4.kd 72 100 (by decide)) (hx4.nn 72 200 (by decide)) hL (by omega)) (fun σ5 a5 h5 => ?_)
  obtain ⟨e5, hF5, hA5, g5⟩ := h5
  have z5 := hF5.2.1.1
  have hx5 := hx4.kW hF5
  have hl5 := hl4.kW hF5 hx4 (fun _ _ _ h => h)
  have ht5 := ht4.kW hF5 hx4 (fun h => h) (fun h => h)
  have k145 := hF5.k k144 (by omega)
  try rw [xf_8_10 hx5]
  refine hx_bs ?_
  try rw [(sm_gI hx5.k9).trans (congrArg some hl5.1)]
  refine hx_bs ?_
  refine Hx.bd (cx_copyOf hF5.hp hx5 (hx5.kd 73 100 (by decide)) (hx5.nn 73 200 (by decide)) hL (by omega)) (fun σ6 a6 h6 => ?_)
  obtain ⟨e6, hF6, hA6, g6⟩ := h6
  have z6 := hF6.2.1.1
  have hx6 := hx5.kW hF6
  have hl6 := hl5.kW hF6 hx5 (fun _ _ _ h => h)
  have ht6 := ht5.kW hF6 hx5 (fun h => h) (fun h => h)
  have k146 := hF6.k k145 (by omega)
  have hFF := (((hF1.tr hF3 (fun _ _ h => h)).tr hF4 (fun _ _ h => h)).tr hF5 (fun _ _ h => h)).tr hF6 (fun _ _ h => h)
  have hQ6 := hQ.st hFF hx (fun r hr => hr.elim)
  try rw [hx6.c9]
  refine hx_bs ?_
  rw [n_fX4_readNumbers, (sm_gI hx6.k9).trans (congrArg some hl6.2.1)]
  have hF7 := cW.nw (x := x) (κ := 104) (n := cnv L) (w := cnv L) hF6.hp (by omega)
  have hx7 := hx6.kW hF7
  have hna : sK (nw 104 (cnv L) (cnv L) σ6) (sz σ6) = 104 ∧ sN (nw 104 (cnv L) (cnv L) σ6) (sz σ6) = cnv L := ⟨if_pos rfl, if_pos rfl⟩
  have hbind : (Option.bind (some (nI (cnv L))) fun v1 => Option.bind (nwA 4 v1 σ6) fun σ2 => nm (sz σ6) fun a3 => fX4_readNumbers_10 FU σ2 (x + 65) (x + 18) a3 (nI 0)) = fX4_readNumbers_10 FU (nw 104 (cnv L) (cnv L) σ6) (x + 65) (x + 18) (sz σ6) (nI 0) := by
    show (Option.bind (nwA 4 (nI (cnv L)) σ6) fun σ2 => nm (sz σ6) fun a3 => fX4_readNumbers_10 FU σ2 (x + 65) (x + 18) a3 (nI 0)) = _
    rw [nwA_k (by omega)]
    rfl
  rw [hbind]
  refine Hx.bd (rd_nums (nn := cnv L) (L := L) (t := t) hx6 hQ6 (Nat.le_refl _) hok hL FU 0 _ (by show L.length - 0 < 4294967296; omega) (by omega) (hF7.mo (fun _ _ h => h.elim) (by omega) (by omega)) (ht6.kW hF7 hx6 (fun h => h) (fun h => h)) (hl6.kW hF7 hx6 (fun _ _ _ h => h)) hna (fun u q hu => by rw [List.take_zero] at hu; cases hu) rfl) (fun σ8 a8 h8 => ?_)
  obtain ⟨e8, hF8, hn8, g8⟩ := h8
  have hx8 := hx6.kW hF8
  have z8 := hF8.2.1.1
  have k148 := hF8.k k146 (by omega)
  subst e3 e4 e5 e6 e8
  -- what was copied is kept
  have hs8 : ∀ a, x + 84 < a → ¬ sRc x a := fun a ha h => by simp only [sRc] at h; omega
  obtain ⟨A31, b31⟩ := hA3.kW hF4 (fun h => h)
  obtain ⟨A32, b32⟩ := A31.kW hF5 (fun h => h)
  obtain ⟨A33, b33⟩ := A32.kW hF6 (fun h => h)
  obtain ⟨A34, b34⟩ := A33.kW hF8 (hs8 _ A33.1.1)
  obtain ⟨A41, b41⟩ := hA4.kW hF5 (fun h => h)
  obtain ⟨A42, b42⟩ := A41.kW hF6 (fun h => h)
  obtain ⟨A43, b43⟩ := A42.kW hF8 (hs8 _ A42.1.1)
  obtain ⟨A51, b51⟩ := hA5.kW hF6 (fun h => h)
  obtain ⟨A52, b52⟩ := A51.kW hF8 (hs8 _ A51.1.1)
  obtain ⟨A61, b61⟩ := hA6.kW hF8 (hs8 _ hA6.1.1)
  have hz0 : sz σ1 ≠ 0 := by omega
  try rw [sm_ckK k148]
  refine hx_bs ?_
  have w1 : pF σ8 13 0 (sz σ1) (sz σ2) = some (wF σ8 (fid 13 0) (sz σ1) (sz σ2)) := sm_pF k148
  have w2 : pF (wF σ8 (fid 13 0) (sz σ1) (sz σ2)) 13 1 (sz σ1) (sz σ3) = some (wF (wF σ8 (fid 13 0) (sz σ1) (sz σ2)) (fid 13 1) (sz σ1) (sz σ3)) := sm_pF (σ := wF σ8 (fid 13 0) (sz σ1) (sz σ2)) k148
  have w3 : pF (wF (wF σ8 (fid 13 0) (sz σ1) (sz σ2)) (fid 13 1) (sz σ1) (sz σ3)) 13 2 (sz σ1) (sz σ4) = some (wF (wF (wF σ8 (fid 13 0) (sz σ1) (sz σ2)) (fid 13 1) (sz σ1) (sz σ3)) (fid 13 2) (sz σ1) (sz σ4)) := sm_pF (σ := wF (wF σ8 (fid 13 0) (sz σ1) (sz σ2)) (fid 13 1) (sz σ1) (sz σ3)) k148
  have w4 : pF (wF (wF (wF σ8 (fid 13 0) (sz σ1) (sz σ2)) (fid 13 1) (sz σ1) (sz σ3)) (fid 13 2) (sz σ1) (sz σ4)) 13 3 (sz σ1) (sz σ5) = some (wF (wF (wF (wF σ8 (fid 13 0) (sz σ1) (sz σ2)) (fid 13 1) (sz σ1) (sz σ3)) (fid 13 2) (sz σ1) (sz σ4)) (fid 13 3) (sz σ1) (sz σ5)) := sm_pF (σ := wF (wF (wF σ8 (fid 13 0) (sz σ1) (sz σ2)) (fid 13 1) (sz σ1) (sz σ3)) (fid 13 2) (sz σ1) (sz σ4)) k148
  have w5 : pF (wF (wF (wF (wF σ8 (fid 13 0) (sz σ1) (sz σ2)) (fid 13 1) (sz σ1) (sz σ3)) (fid 13 2) (sz σ1) (sz σ4)) (fid 13 3) (sz σ1) (sz σ5)) 13 4 (sz σ1) (sz σ6) = some (wF (wF (wF (wF (wF σ8 (fid 13 0) (sz σ1) (sz σ2)) (fid 13 1) (sz σ1) (sz σ3)) (fid 13 2) (sz σ1) (sz σ4)) (fid 13 3) (sz σ1) (sz σ5)) (fid 13 4) (sz σ1) (sz σ6)) := sm_pF (σ := wF (wF (wF (wF σ8 (fid 13 0) (sz σ1) (sz σ2)) (fid 13 1) (sz σ1) (sz σ3)) (fid 13 2) (sz σ1) (sz σ4)) (fid 13 3) (sz σ1) (sz σ5)) k148
  have w6 : pF (wF (wF (wF (wF (wF σ8 (fid 13 0) (sz σ1) (sz σ2)) (fid 13 1) (sz σ1) (sz σ3)) (fid 13 2) (sz σ1) (sz σ4)) (fid 13 3) (sz σ1) (sz σ5)) (fid 13 4) (sz σ1) (sz σ6)) 8 18 (x + 65) (sz σ1) = some (wF (wF (wF (wF (wF (wF σ8 (fid 13 0) (sz σ1) (sz σ2)) (fid 13 1) (sz σ1) (sz σ3)) (fid 13 2) (sz σ1) (sz σ4)) (fid 13 3) (sz σ1) (sz σ5)) (fid 13 4) (sz σ1) (sz σ6)) (fid 8 18) (x + 65) (sz σ1)) := sm_pF (σ := wF (wF (wF (wF (wF σ8 (fid 13 0) (sz σ1) (sz σ2)) (fid 13 1) (sz σ1) (sz σ3)) (fid 13 2) (sz σ1) (sz σ4)) (fid 13 3) (sz σ1) (sz σ5)) (fid 13 4) (sz σ1) (sz σ6)) hx8.k9
  have hall : cW x (sRr x) (5 + 4 * L.length + (cnv L + 15 * cnv L)) (1 + 4 + (1 + 5 * cnv L)) σ1 σ8 := ((hFF.mo (S' := sRr x) (fun _ _ h => h.elim) (Nat.le_refl _) (Nat.le_refl _)).tr hF8 (fun r _ h => Or.inl h)).mo (fun _ _ h => h) (by omega) (by omega)
  have s1 := hall.wf (a := sz σ1) (f := fid 13 0) (v := sz σ2) (Or.inl (Nat.le_refl _)) (by omega) (by omega)
  have s2 := s1.wf (a := sz σ1) (f := fid 13 1) (v := sz σ3) (Or.inl (Nat.le_refl _)) (show sK σ8 (sz σ1) ≠ 8 by omega) (show sK σ8 (sz σ1) ≠ 100 by omega)
  have s3 := s2.wf (a := sz σ1) (f := fid 13 2) (v := sz σ4) (Or.inl (Nat.le_refl _)) (show sK σ8 (sz σ1) ≠ 8 by omega) (show sK σ8 (sz σ1) ≠ 100 by omega)
  have s4 := s3.wf (a := sz σ1) (f := fid 13 3) (v := sz σ5) (Or.inl (Nat.le_refl _)) (show sK σ8 (sz σ1) ≠ 8 by omega) (show sK σ8 (sz σ1) ≠ 100 by omega)
  have s5 := s4.wf (a := sz σ1) (f := fid 13 4) (v := sz σ6) (Or.inl (Nat.le_refl _)) (show sK σ8 (sz σ1) ≠ 8 by omega) (show sK σ8 (sz σ1) ≠ 100 by omega)
  have k98 := hx8.k9
  have s6 := s5.wf (a := x + 65) (f := fid 8 18) (v := sz σ1) (Or.inr ⟨by decide, Or.inr ⟨by omega, by omega⟩⟩) (show sK σ8 (x + 65) ≠ 8 by omega) (show sK σ8 (x + 65) ≠ 100 by omega)
  have hrd := hall.sam (a := x + 65) (by rw [hx.k9]; omega) (Or.inl (by rw [hx.k9]; omega))
  have i65 : ∀ f, sI σ8 f (x + 65) = sI σ1 f (x + 65) := by
    have c1 := hFF.sam (a := x + 65) (by rw [hx.k9]; omega) (Or.inl (by rw [hx.k9]; omega)) (fun h => h)
    have c2 := hF8.sam (a := x + 65) (by rw [hx6.k9]; omega) (Or.inl (by rw [hx6.k9]; omega)) (fun h => by simp only [sRc] at h; omega)
    exact fun f => (c2.1 f).trans (c1.1 f)
  have e9 : fX9_init σ8 (sz σ1) (sz σ2) (sz σ3) (sz σ4) (sz σ5) (sz σ6) = some (wF (wF (wF (wF (wF σ8 (fid 13 0) (sz σ1) (sz σ2)) (fid 13 1) (sz σ1) (sz σ3)) (fid 13 2) (sz σ1) (sz σ4)) (fid 13 3) (sz σ1) (sz σ5)) (fid 13 4) (sz σ1) (sz σ6), ()) := by
    apply hx_eq
    rw [n_fX9_init, show ckP (decide (¬ sz σ1 = 0)) = some () by rw [decide_eq_true hz0]; rfl]
    refine hx_bs ?_
    rw [w1]
    refine hx_bs ?_
    rw [w2]
    refine hx_bs ?_
    rw [w3]
    refine hx_bs ?_
    rw [w4]
    refine hx_bs ?_
    rw [w5]
    exact hx_bs (Hx.ret ⟨rfl, rfl⟩)
  rw [e9]
  refine hx_cs ?_
  rw [w6]
  refine hx_bs (Hx.ret (Or.inr ⟨L, hr, rfl, hLt, ?_, hok, w, wp, ⟨⟨(i65 _).trans hW.1.1, hW.1.2⟩, (i65 _).trans hW.2.1, hW.2.2⟩, hww, ⟨(i65 _).trans hF, frm_b t⟩, ⟨(i65 _).trans hW.1.1, hW.1.2⟩, ⟨(i65 _).trans hW.2.1, hW.2.2⟩, ⟨(i65 _).trans (hpm.1.trans (by rw [hpr])), by rw [hpr]; exact hpm.2.1⟩, ?_⟩))
  · exact ((h0.mo (S' := sRr x) (fun r _ h => Or.inr h) (Nat.le_refl _) (Nat.le_refl _)).tr s6 (fun _ _ h => h)).mo (fun _ _ h => h) (by omega) (by omega)
  · rw [sF_wF_eq]
    have F0 : sF (wF (wF (wF (wF (wF (wF σ8 (fid 13 0) (sz σ1) (sz σ2)) (fid 13 1) (sz σ1) (sz σ3)) (fid 13 2) (sz σ1) (sz σ4)) (fid 13 3) (sz σ1) (sz σ5)) (fid 13 4) (sz σ1) (sz σ6)) (fid 8 18) (x + 65) (sz σ1)) (fid 13 0) (sz σ1) = sz σ2 := by
      rw [sF_wF_f (by decide), sF_wF_f (by decide), sF_wF_f (by decide), sF_wF_f (by decide), sF_wF_f (by decide), sF_wF_eq]
    have F1 : sF (wF (wF (wF (wF (wF (wF σ8 (fid 13 0) (sz σ1) (sz σ2)) (fid 13 1) (sz σ1) (sz σ3)) (fid 13 2) (sz σ1) (sz σ4)) (fid 13 3) (sz σ1) (sz σ5)) (fid 13 4) (sz σ1) (sz σ6)) (fid 8 18) (x + 65) (sz σ1)) (fid 13 1) (sz σ1) = sz σ3 := by
      rw [sF_wF_f (by decide), sF_wF_f (by decide), sF_wF_f (by decide), sF_wF_f (by decide), sF_wF_eq]
    have F2 : sF (wF (wF (wF (wF (wF (wF σ8 (fid 13 0) (sz σ1) (sz σ2)) (fid 13 1) (sz σ1) (sz σ3)) (fid 13 2) (sz σ1) (sz σ4)) (fid 13 3) (sz σ1) (sz σ5)) (fid 13 4) (sz σ1) (sz σ6)) (fid 8 18) (x + 65) (sz σ1)) (fid 13 2) (sz σ1) = sz σ4 := by
      rw [sF_wF_f (by decide), sF_wF_f (by decide), sF_wF_f (by decide), sF_wF_eq]
    have F3 : sF (wF (wF (wF (wF (wF (wF σ8 (fid 13 0) (sz σ1) (sz σ2)) (fid 13 1) (sz σ1) (sz σ3)) (fid 13 2) (sz σ1) (sz σ4)) (fid 13 3) (sz σ1) (sz σ5)) (fid 13 4) (sz σ1) (sz σ6)) (fid 8 18) (x + 65) (sz σ1)) (fid 13 3) (sz σ1) = sz σ5 := by
      rw [sF_wF_f (by decide), sF_wF_f (by decide), sF_wF_eq]
    have F4 : sF (wF (wF (wF (wF (wF (wF σ8 (fid 13 0) (sz σ1) (sz σ2)) (fid 13 1) (sz σ1) (sz σ3)) (fid 13 2) (sz σ1) (sz σ4)) (fid 13 3) (sz σ1) (sz σ5)) (fid 13 4) (sz σ1) (sz σ6)) (fid 8 18) (x + 65) (sz σ1)) (fid 13 4) (sz σ1) = sz σ6 := by
      rw [sF_wF_f (by decide), sF_wF_eq]
    have ka : ∀ a, KA σ8 x a L.length → KA (wF (wF (wF (wF (wF (wF σ8 (fid 13 0) (sz σ1) (sz σ2)) (fid 13 1) (sz σ1) (sz σ3)) (fid 13 2) (sz σ1) (sz σ4)) (fid 13 3) (sz σ1) (sz σ5)) (fid 13 4) (sz σ1) (sz σ6)) (fid 8 18) (x + 65) (sz σ1)) x a L.length :=
      fun a h => (((((h.wf (by decide)).wf (by decide)).wf (by decide)).wf (by decide)).wf (by decide)).wf (by decide)
    refine ⟨⟨by omega, k148, hL⟩, sz σ2, sz σ3, sz σ4, sz σ5, sz σ6, cnv L, ⟨F0, F1, F2, F3, F4⟩, ⟨ka _ A34, ka _ A43, ka _ A52, ka _ A61, ⟨by omega, hn8.1, hn8.2⟩, by omega⟩, fun j it hj => ?_⟩
    have hjl := (List.getElem?_eq_some_iff.mp hj).1
    have hio := hok it (List.mem_of_getElem? hj)
    obtain ⟨r1, r2, r3, r4⟩ := l3 j it hj
    have c0 : ∀ o, (o = 70 ∨ o = 71 ∨ o = 72 ∨ o = 73) → ∀ i, sA σ2 (x + o) i = sA σ1 (x + o) i := by
      intro o ho i
      have hk : sK σ1 (x + o) = 100 := by rcases ho with rfl | rfl | rfl | rfl <;> exact hx.kd _ 100 (by decide)
      have hnl : NL σ1 (x + o) := by rcases ho with rfl | rfl | rfl | rfl <;> exact hx.2.2.2.2 _ (by decide)
      exact (hF1.sam (a := x + o) (by omega) (Or.inr hnl) (fun h => h)).2.2.1 i
    have cc : ∀ {σa σb : St} {n c : Nat}, XS σa x → cW x s0 n c σa σb → ∀ o, (o = 70 ∨ o = 71 ∨ o = 72 ∨ o = 73) → ∀ i, sA σb (x + o) i = sA σa (x + o) i := by
      intro σa σb n c hxa hFa o ho i
      have hk : sK σa (x + o) = 100 := by rcases ho with rfl | rfl | rfl | rfl <;> exact hxa.kd _ 100 (by decide)
      have hnl : NL σa (x + o) := by rcases ho with rfl | rfl | rfl | rfl <;> exact hxa.2.2.2.2 _ (by decide)
      exact (hFa.sam (a := x + o) (by omega) (Or.inr hnl) (fun h => h)).2.2.1 i
    have v1 : sA σ8 (sz σ2) j = nI (ckd it) := by rw [b34, b33, b32, b31, g3 j hjl, c0 70 (by omega), r1]
    have v2 : sA σ8 (sz σ3) j = nI (if it.1 = 30 then cnv (L.take j) else it.2.1) := by rw [b43, b42, b41, g4 j hjl, cc hx1 hF3 71 (by omega), c0 71 (by omega), r2]
    have v3 : sA σ8 (sz σ4) j = nI it.2.2.2.1 := by rw [b52, b51, g5 j hjl, cc hx3 hF4 72 (by omega), cc hx1 hF3 72 (by omega), c0 72 (by omega), r3]
    have v4 : sA σ8 (sz σ5) j = nI it.2.2.1 := by rw [b61, g6 j hjl, cc hx4 hF5 73 (by omega), cc hx3 hF4 73 (by omega), cc hx1 hF3 73 (by omega), c0 73 (by omega), r4]
    refine ⟨hio.1, v1, fun h30 => ⟨cnv (L.take j), v2.trans (by rw [if_pos h30]), cnv_take_lt hj h30, ?_⟩, fun h30 => v2.trans (by rw [if_neg h30]), v3, v4⟩
    have := g8 _ _ (nvs_get hj h30)
    exact (((((this.wf (by decide) (by decide) (by decide)).wf (by decide) (by decide) (by decide)).wf (by decide) (by decide) (by decide)).wf (by decide) (by decide) (by decide)).wf (by decide) (by decide) (by decide)).wf (by decide) (by decide) (by decide)
