/-! ===== the class' run: all of it ===== -/
abbrev Evt := Nat ⊕ (List It × Ocm)
/-- what a text on the tape leads to -/
def Ev (A : As) (t : List Nat) (E : Evt) : Prop := match E with
  | .inl i => Rdd t (.inl i)
  | .inr (l, oc) => Rdd t (.inr l) ∧ RunR A (frm t) (tk t 0).2.1 (tk t 0).2.2.1 (prn t) l oc ∧ ∀ form w, Rng A form w l
theorem rfs_0 {ns : List NE} {fs : List FE} {T : List Th} {w wp np w' wp' np' : Nat} {l : List It} : rfs ns fs T 0 w wp np l = rfs ns fs T 0 w' wp' np' l := rfl
theorem RunR.z {A : As} {w wp np w' wp' : Nat} {l : List It} {oc : Ocm} (h : RunR A 0 w wp np l oc) : RunR A 0 w' wp' np l oc := by
  unfold RunR at h ⊢
  rw [rfs_0 (w := w') (wp := wp') (w' := w) (wp' := wp) (np' := np)]
  cases hr : rfs A.1 A.2.1 (Ths A.1 A.2.1) 0 w wp np l with
  | some r => rw [hr] at h; exact h
  | none =>
    rw [hr] at h
    rcases h with ⟨q, _⟩ | ⟨q, h1, h2, r, h3, h4⟩
    · cases q
    · refine Or.inr ⟨q, h1, h2, r, h3, ?_⟩
      rcases h4 with h4 | h4 | ⟨_, q, _⟩
      · exact Or.inl h4
      · exact Or.inr (Or.inl h4)
      · cases q
def upH (s : Kst) (A' : As) : Nat × List As := (if s.2.2.2.2.2.2.2.1 + 1 < 21 then s.2.2.2.2.2.2.2.1 + 1 else 20, chg s.2.2.2.2.2.2.2.1 s.2.2.2.2.2.2.2.2 A')
/-- the class behind run -/
def runS (form : Nat) (s : Kst) (v : Option (Qv × Sts)) (A' : As) : Kst :=
  ([], -1, s.2.2.1, (match v with | none => s.2.2.2.1 | some q => q.1), s.2.2.2.2.1, s.2.2.2.2.2.1, (match v with | none => s.2.2.2.2.2.2.1 | some q => q.2), if form = 0 then s.2.2.2.2.2.2.2 else upH s A')
def RunP (x : Nat) (t : List Nat) (s : Kst) (E : Evt) (σ σ' : St) (r : String ⊕ Int32) : Prop := match E with
  | .inl i => r = .inl "java/lang/IllegalArgumentException" ∧ ∃ σ1 o, σ' = th σ1 ∧ KI σ1 x o ([], (tk t i).2.2.1, s.2.2) ∧ cO x (512 + 20 * t.length) (142 + 5 * t.length) σ σ1
  | .inr (_, .inl rf) => r = .inl "java/lang/ArithmeticException" ∧ ∃ σ1 o, σ' = th σ1 ∧ KI σ1 x o ([], -1, rf, s.2.2.2) ∧ cO x (512 + 20 * t.length) (142 + 5 * t.length) σ σ1
  | .inr (_, .inr (v, A')) => r = .inr (nI (frm t)) ∧ (∃ o, KI σ' x o (runS (frm t) s v A')) ∧ cO x (512 + 20 * t.length) (142 + 5 * t.length) σ σ'
theorem sRr.scr {σ : St} {x o r : Nat} (h : sRr x r) : sScr σ x o r := by
  rcases h with h | h
  · exact Or.inr (Or.inl ⟨h.1, by omega⟩)
  · exact Or.inl h
theorem KSp.s0 {σ : St} {x o : Nat} (h : KSp σ x o) : oS o := h.1
theorem cx_run_ok {σ : St} {x o w wp K C : Nat} {t : List Nat} {l : List It} {s : Kst} {A : As} {oc : Ocm} {σ0 : St} (h : KI σ x o ([], -1, s.2.2)) (hA : s.2.2.2.2.2.2.2.2[s.2.2.2.2.2.2.2.1]? = some A) (hbk : Bkc A) (hR : RunR A (frm t) w wp (prn t) l oc) (hrg : ∀ form w, Rng A form w l) (hL : Ln σ x (frm t) w wp (prn t) l) (hw0 : frm t ≠ 0 → 0 < w) (hpr : frm t = 1 → prn t = 0)
    (hO : cO x K C σ0 σ) (hK : K ≤ 5 + 20 * t.length) (hC : C ≤ 6 + 5 * t.length) :
    Hx (Option.bind (ckK σ 16 x) fun _ => cb (fX11_isRefusedAhead σ x) fun σ12 v13 => if v13 = (nI 0) then ((Option.bind (ckK σ12 16 x) fun _ => cb (fX11_isRefusedAtWork σ12 x) fun σ16 v17 => if v17 = (nI 0) then ((Option.bind (gF σ16 15 17 x) fun v20 => Option.bind (gI σ16 8 13 v20) fun v21 => if v21 = (nI 2) then ((fX11_run_95 σ16 x 0)) else ((nm (nw 6 0 3 σ16) fun σ23 => nm (sz σ16) fun a24 => Option.bind (gF σ23 15 18 x) fun v25 => Option.bind (gF σ23 6 8 v25) fun v26 => Option.bind (ckK σ23 6 a24) fun _ => cb (fX1_init_ σ23 a24 v26) fun σ27 v28 => fX11_run_95 σ27 x a24)))) else ((fX11_run_58 σ16)))) else ((fX11_run_58 σ12)))
      (RunP x t s (.inr (l, oc)) σ0) := by
  obtain ⟨hp, hx, hkw, htn, hQ⟩ := id h.1
  have ho := h.2.2.2.1.1.1
  have ho2 : o = 11 ∨ o = 14 := ho
  obtain ⟨f1, f2⟩ := ho.fl
  have hfb := frm_b t
  have k0 : sK σ x = 16 := hx.kd 0 16 (by decide)
  obtain ⟨⟨b1, b2, b3, b4⟩, b5, b6, b7⟩ := id hbk
  obtain ⟨w0, wp0, hw0'⟩ := h.2.2.2.2.2
  have hKSp := h.2.2.2.1.1
  rw [sm_ckK k0]
  refine hx_bs ?_
  refine Hx.bd (cx_isRefusedAhead hp hx hQ h.2.2.2.2.1 hA hL hkw b1 b2 b3 b4 (hrg (frm t) w)) (fun σ1 v h1 => ?_)
  unfold RunR at hR
  cases hr : rfs A.1 A.2.1 (Ths A.1 A.2.1) (frm t) w wp (prn t) l with
  | some r =>
    rw [hr] at h1 hR
    have hR : oc = .inl (r.1, r.2.1, -1, r.2.2) := hR
    obtain ⟨hF, hI, rfl, hrf⟩ := h1
    subst hR
    refine Hx.ce (sm_eq (by omega) (by omega)) (fun c => absurd c (by omega)) (fun _ => ?_)
    have hM := hF.toM hx (fun T hT hs => by rcases hs with q | q <;> rcases hT with g | g | g <;> omega)
    have hQ1 := hQ.st hF hx (fun r hr => by rcases hr with q | q <;> omega)
    have hS0 : ∀ r, s2 x (x + 2) r → sScr σ x o r ∨ r = x ∨ r = x + 2 ∨ r = x + 17 := fun r hr => Or.inr (hr.elim (fun q => Or.inl q) (fun q => Or.inr (Or.inl q)))
    obtain ⟨g0, hB, g1, g2, g3, g4, g5, g6⟩ := h.pt hM hQ1 hS0 hI
    rw [n_fX11_run_58]
    refine Hx.ret ⟨rfl, σ1, o, rfl, ⟨g0, ⟨g1 (by decide), g2 (by decide), hrf⟩, g4, g5, g6 (by decide) (by decide) (fun q => by rcases q with q | q <;> omega), w0, wp0, hw0'.kW hF hx (fun q => by rcases q with q | q <;> omega)⟩, ?_⟩
    exact (hO.tr (hM.O (Or.inr ho) (fun r hr => by rcases hr with q | q <;> omega))).mo (by omega) (by omega)
  | none =>
    rw [hr] at h1 hR
    obtain ⟨rfl, rfl⟩ := h1
    refine Hx.ce (sm_eq (by omega) (by omega)) (fun _ => ?_) (fun c => absurd rfl c)
    rw [sm_ckK k0]
    refine hx_bs ?_
    obtain ⟨l1, l2, _⟩ := hL.f hx
    rcases hR with ⟨c2, fs1, res, hRF, rfl⟩ | ⟨c2, hok, hh, r, hwk, hR⟩
    · -- a function
      have e10 : fX11_isRefusedAtWork σ1 x = some (σ1, nI 0) := by
        apply hx_eq
        rw [n_fX11_isRefusedAtWork, l1]
        refine hx_bs ?_
        rw [l2]
        exact hx_bs (Hx.ce (sm_eq (by omega) (by omega)) (fun _ => Hx.ret ⟨rfl, rfl⟩) (fun c => absurd c2 c))
      rw [e10]
      refine hx_cs (Hx.ce (sm_eq (by omega) (by omega)) (fun _ => ?_) (fun c => absurd rfl c))
      rw [l1]
      refine hx_bs ?_
      rw [l2]
      refine hx_bs (Hx.ce (sm_eq (by omega) (by omega)) (fun _ => ?_) (fun c => absurd c2 c))
      rw [c2] at hL
      refine Hx.mo (cx_run_95F h hA hbk (hw0 (by omega)) hL hRF) (fun σ2 r h2 => ?_)
      cases res with
      | inl fw =>
        obtain ⟨q1, σ3, q2, q3, q4⟩ := h2
        exact ⟨q1, σ3, o, q2, q3, (hO.tr q4).mo (by omega) (by omega)⟩
      | inr ns' =>
        obtain ⟨q1, q2, q3⟩ := h2
        refine ⟨by rw [c2]; exact q1, ⟨o, ?_⟩, (hO.tr q3).mo (by omega) (by omega)⟩
        unfold runS
        rw [if_neg (by omega)]
        exact q2
    · refine Hx.bd (cx_isRefusedAtWork hp hx hQ h.2.2.2.2.1 hA hL hKSp c2 b7 hok hh (Nat.le_refl _) hwk) (fun σ2 v h2 => ?_)
      obtain ⟨hM, hQ2, h20, h21⟩ := h2
      have hS2 : ∀ r, sW σ1 x o r → sScr σ1 x o r ∨ r = x ∨ r = x + 2 ∨ r = x + 17 := fun r hr => hr.elim (fun q => Or.inl (Or.inr q)) (fun q => Or.inr (Or.inl q))
      have nlow : ∀ d, (d = 2 ∨ d = 17 ∨ d = 65) → ¬ sW σ1 x o (x + d) := fun d hd q => by
        rcases q with q | q
        · have := q.low hQ (Or.inr ho) (by omega)
          omega
        · omega
      obtain ⟨kk, cc, hc⟩ := hM.w
      have hw2 := hw0'.kW hc hx (nlow 65 (by omega))
      have hO2 : cO x 0 0 σ1 σ2 := hM.O (Or.inr ho) (fun r hr => by
        rcases hS2 r hr with q | q | q | q
        · exact Or.inl q
        · exact Or.inr (Or.inl q)
        · exact Or.inr (Or.inr (Or.inr (Or.inl q)))
        · exact Or.inr (Or.inr (Or.inr (Or.inr (Or.inr (Or.inr (Or.inr q)))))))
      by_cases cr : r.1 = 0
      · obtain ⟨rfl, hI, hX, hqo, hS9⟩ := h20 cr
        refine Hx.ce (sm_eq (by omega) (by omega)) (fun _ => ?_) (fun c => absurd rfl c)
        obtain ⟨g0, hB, g1, g2, g3, g4, g5, g6⟩ := h.pt hM hQ2 hS2 hI
        have k2 : KI σ2 x o ([], -1, s.2.2) := ⟨g0, ⟨g1 (fun q => by cases q), g2 (fun q => by cases q), g3 (fun f _ q => by cases q) (nlow 2 (by omega))⟩, g4, g5, g6 (fun q => by cases q) (fun q => by cases q) (nlow 17 (by omega)), w0, wp0, hw2⟩
        have hL2 := hL.kW hc hx hB hQ (nlow 65 (by omega))
        obtain ⟨m1, m2, _⟩ := hL2.f g0.2.1
        have hx2 := g0.2.1
        rw [m1]
        refine hx_bs ?_
        rw [m2]
        refine hx_bs (Hx.ce (sm_eq (by omega) (by omega)) (fun c => absurd c c2) (fun _ => ?_))
        refine hx_nm (hx_nm ?_)
        have hF3 := cW.nw (x := x) (κ := 6) (n := 0) (w := 3) hM.hp (by omega)
        have hx3 := hx2.kW hF3
        rw [show gF (nw 6 0 3 σ2) 15 18 x = some (x + 75) from hx3.gf 15 18 0 75 (by decide) (by decide)]
        refine hx_bs ?_
        rw [show gF (nw 6 0 3 σ2) 6 8 (x + 75) = some (x + 80) from hx3.gf 6 8 75 80 (by decide) (by decide)]
        refine hx_bs ?_
        rw [sm_ckK (show sK (nw 6 0 3 σ2) (sz σ2) = 6 from if_pos rfl)]
        refine hx_bs ?_
        refine Hx.bd (cf_copy hM.hp hX hqo.n4.1 hqo.n4.2) (fun σ4 _ h4 => ?_)
        obtain ⟨hF4, hX4⟩ := h4
        have kf := KF.made hx2 hQ2 hF4 (Nat.le_refl _) hqo hX4
        have hM4 := hF4.toM hx2 (fun T hT hs => hs)
        have hQ4 := hQ2.st hF4 hx2 (fun r hr => hr.elim)
        have hI4 : xI [] x σ2 σ4 := xI.of hF4 hx2 (fun h => h)
        obtain ⟨j0, jB, j1, j2, j3, j4, j5, j6⟩ := k2.pt hM4 hQ4 (fun r hr => hr.elim) hI4
        have k4 : KI σ4 x o ([], -1, s.2.2) := ⟨j0, ⟨j1 (fun q => by cases q), j2 (fun q => by cases q), j3 (fun f _ q => by cases q) (fun q => q)⟩, j4, j5, j6 (fun q => by cases q) (fun q => by cases q) (fun q => q), w0, wp0, hw2.kW hF4 hx2 (fun q => q)⟩
        have hL4 := hL2.kW hF4 hx2 jB hQ2 (fun q => q)
        have hS4 := hS9.kW hx2 hQ2 hF4 ⟨fun q => q, fun q => q, fun q => q⟩ (fun r hr => hr.elim)
        have hO4 := (hO.tr hO2).tr (hM4.O (Or.inr ho) (fun r hr => hr.elim))
        obtain ⟨n1, n2, _⟩ := hL4.f j0.2.1
        rcases hR with ⟨q, _⟩ | ⟨_, cf, rfl⟩ | ⟨_, cf, ns1, res, hRN, rfl⟩
        · exact absurd cr q
        · -- a sum alone
          rw [n_fX11_run_95, n1]
          refine hx_bs ?_
          rw [n2]
          refine hx_bs (Hx.ce (sm_eq (by omega) (by omega)) (fun _ => ?_) (fun c => absurd cf c))
          refine Hx.mo (cx_run_143 j0.1 j0.2.1 hQ4 k4.2.2.2.2.1 hL4 k4.2.2.2.1.1 hS4 kf) (fun σ5 r5 h5 => ?_)
          obtain ⟨rfl, hF5, hA5, hH5, ha5, hk5, hs5⟩ := h5
          have hx4 := j0.2.1
          have hM5 := hF5.toM hx4 (fun T hT hs => by have : x + T = x := hs; rcases hT with g | g | g <;> omega)
          have hQ5 := hQ4.st hF5 hx4 (fun r hr => by have : r = x := hr; omega)
          obtain ⟨g05, hB5⟩ := j0.scr ho hM5 hQ5 (fun r hr => Or.inr (Or.inl hr))
          obtain ⟨_, ⟨t1, t2, t3⟩, ⟨a1, a2, a3, a4⟩, _⟩ := k4
          have k9 := a3.1
          refine ⟨rfl, ⟨25 - o, ?_⟩, (hO4.tr (hM5.O (Or.inr ho) (fun r hr => Or.inr (Or.inl hr)))).mo (by omega) (by omega)⟩
          unfold runS
          rw [if_pos cf]
          refine ⟨g05, ⟨t1.kW hF5 hx4 (hA5.1 _) (fun q => by have : x + 1 = x := q; omega), (hA5.1 _).trans t2, t3.kW hF5 hx4 (fun f _ => hA5.1 f) (fun q => by have : x + 2 = x := q; omega)⟩, ⟨ha5, a2.kW hF5 hx4 hB5 hQ4 (fun q => by have : x + 8 = x := q; omega), a3.kW hF5 (fun q => by have : x + 9 = x := q; omega) (fun q => ?_), ?_⟩, ⟨hk5, by rw [f2]; exact hs5⟩, hH5, w0, wp0, (hw2.kW hF4 hx2 (fun q => q)).kW hF5 hx4 (fun q => by have : x + 65 = x := q; omega)⟩
          · have q9 : sF σ4 (fid 1 0) (x + 9) = x := q
            omega
          · rw [(hF5.sam (a := x + 9) (by omega) (Or.inl (by omega)) (fun q => by have : x + 9 = x := q; omega)).2.1]
            exact a4
        · -- a name
          rw [cf, hpr cf] at hL4
          refine Hx.mo (cx_run_95N k4 hA hbk (hw0 (by omega)) hL4 kf hS4 hRN) (fun σ5 r5 h5 => ?_)
          cases res with
          | inl fw =>
            obtain ⟨q1, σ3, q2, q3, q4⟩ := h5
            exact ⟨q1, σ3, o, q2, q3, (hO4.tr q4).mo (by omega) (by omega)⟩
          | inr ns' =>
            obtain ⟨q1, q2, q3⟩ := h5
            refine ⟨by rw [cf]; exact q1, ⟨25 - o, ?_⟩, (hO4.tr q3).mo (by omega) (by omega)⟩
            unfold runS
            rw [if_neg (by omega)]
            exact q2
      · obtain ⟨rfl, hI, hrf⟩ := h21 cr
        refine Hx.ce (sm_eq (by omega) (by omega)) (fun c => absurd c (by omega)) (fun _ => ?_)
        obtain ⟨g0, hB, g1, g2, g3, g4, g5, g6⟩ := h.pt hM hQ2 hS2 hI
        rcases hR with ⟨_, rfl⟩ | ⟨q, _⟩ | ⟨q, _⟩
        · rw [n_fX11_run_58]
          exact Hx.ret ⟨rfl, σ2, o, rfl, ⟨g0, ⟨g1 (by decide), g2 (by decide), hrf⟩, g4, g5, g6 (by decide) (by decide) (nlow 17 (by omega)), w0, wp0, hw2⟩, (hO.tr hO2).mo (by omega) (by omega)⟩
        · exact absurd q cr
        · exact absurd q cr
theorem prn_1 {t : List Nat} (h : frm t = 1) : prn t = 0 := by
  unfold prn hdf
  rw [if_neg (by omega), if_pos h]
  rfl
theorem cx_run {σ : St} {x o : Nat} {s : Kst} {A : As} {E : Evt} (h : KI σ x o s) (hA : s.2.2.2.2.2.2.2.2[s.2.2.2.2.2.2.2.1]? = some A) (hbk : Bkc A) (hE : Ev A s.1 E) : Hx (fX11_run σ x) (RunP x s.1 s E σ) := by
  obtain ⟨hp, hx, hkw, htn, hQ⟩ := id h.1
  obtain ⟨t1, t2, t3⟩ := h.2.1
  obtain ⟨tl, tb1, tb2, tb3⟩ := t1
  have ho := h.2.2.2.1.1.1
  have k0 : sK σ x = 15 + 1 := hx.kd 0 16 (by decide)
  obtain ⟨w0, wp0, hw0⟩ := h.2.2.2.2.2
  rw [n_fX11_run, show gF σ 15 17 x = some (x + 65) from hx.gf 15 17 0 65 (by decide) (by decide)]
  refine hx_bs ?_
  rw [show gF σ 15 0 x = some (x + 1) from hx.gf 15 0 0 1 (by decide) (by decide)]
  refine hx_bs ?_
  rw [(sm_gI k0).trans (congrArg some tl)]
  refine hx_bs ?_
  rw [show gF σ 15 16 x = some (x + 18) from hx.gf 15 16 0 18 (by decide) (by decide)]
  refine hx_bs ?_
  rw [hx.c9]
  refine hx_bs ?_
  refine Hx.bd (cr_read hp hx hkw hQ hw0 tb2 tb3 tb1) (fun σ1 v h1 => ?_)
  rcases h1 with ⟨i, hr, rfl, hb, hF, hw1⟩ | ⟨l, hr, rfl, hl, hF, hok, w, wp, hw, hww, hL⟩
  · have hM := hF.toM hx (fun T hT hs => by simp only [sRd] at hs; rcases hT with g | g | g <;> omega)
    have hQ1 := hQ.st hF hx (fun r hr => by simp only [sRd] at hr; omega)
    have k1 := h.scr hM hQ1 (fun r hr => Or.inl hr) hw1
    obtain ⟨e1, e2, k2, hM2, hI2, e3⟩ := k1.err (e := ((tk s.1 i).2.2.1 : Int))
    rw [sm_iz, e1]
    refine hx_bs ?_
    rw [e2]
    refine hx_bs ?_
    rw [e3]
    refine hx_bs (Hx.ce (iz_eq (by omega) (by omega) (by omega) (by omega)) (fun c => absurd c (by omega)) (fun _ => ?_))
    have hO := (hM.O (Or.inr ho) (fun r hr => Or.inl (Or.inl hr))).tr (hM2.O (Or.inr ho) (fun r hr => Or.inr (Or.inl hr)))
    cases E with
    | inl i' =>
      have hi : i' = i := Sum.inl.inj (Rdd.det hE hr)
      subst hi
      exact Hx.ret ⟨rfl, _, o, rfl, k2, hO.mo (by omega) (by omega)⟩
    | inr p =>
      obtain ⟨l, oc⟩ := p
      exact absurd (Rdd.det hE.1 hr) (fun q => by cases q)
  · have hM := hF.toM hx (fun T hT hs => by simp only [sRr] at hs; rcases hT with g | g | g <;> omega)
    have hQ1 := hQ.st hF hx (fun r hr => by simp only [sRr] at hr; omega)
    have k1 := h.scr hM hQ1 (fun r hr => sRr.scr hr) ⟨w, wp, hw⟩
    obtain ⟨e1, e2, k2, hM2, hI2, e3⟩ := k1.err (e := -1)
    rw [e1]
    refine hx_bs ?_
    rw [e2]
    refine hx_bs ?_
    rw [e3]
    refine hx_bs (Hx.ce (iz_eq (by omega) (by omega) (by omega) (by omega)) (fun _ => ?_) (fun c => absurd rfl c))
    have hO := (hM.O (Or.inr ho) (fun r hr => Or.inl (sRr.scr hr))).tr (hM2.O (Or.inr ho) (fun r hr => Or.inr (Or.inl hr)))
    cases E with
    | inl i' => exact absurd (Rdd.det hE hr) (fun q => by cases q)
    | inr p =>
      obtain ⟨l', oc⟩ := p
      obtain ⟨r1, r2, r3⟩ := hE
      have hll : l' = l := Sum.inr.inj (Rdd.det r1 hr)
      subst hll
      obtain ⟨kk, cc, hc⟩ := hM2.w
      have hB2 := hM2.toB (fun r _ hr => Or.inl (by have : r = x := hr; omega))
      have hL2 := hL.kW hc k1.1.2.1 hB2 hQ1 (fun q => by have : x + 65 = x := q; omega)
      have hR2 : RunR A (frm s.1) w wp (prn s.1) l' oc := by
        by_cases c : frm s.1 = 0
        · rw [c] at r2 ⊢
          exact r2.z
        · obtain ⟨q1, q2⟩ := hww c
          rw [q1, q2]
          exact r2
      refine cx_run_ok (s := s) k2 hA hbk hR2 r3 hL2 (fun c => ?_) prn_1 hO (by omega) (by omega)
      obtain ⟨q1, q2⟩ := hww c
      rw [q1]
      have hfb := frm_b s.1
      have c01 : (tk s.1 0).1 = 1 := by
        rcases Nat.lt_or_ge (frm s.1) 2 with q | q
        · exact (frm_1 (by omega)).1
        · exact (frm_2 (by omega)).1
      exact ((tk_b (t := s.1) 0).2.2.2.1 c01).1
