/-! ===== calls of the one that was built: takeAll ===== -/
def Sqn (a : Qv) : Prop := (a.1 = 0 ∨ a.1 = 1 ∨ a.1 = -1) ∧ (a.1 = 0 ↔ a.2.1 = 0) ∧ 0 < a.2.2
theorem qmk_sq {s : Int} {x y : Nat} (hy : 0 < y) (hs : x ≠ 0 → s = 1 ∨ s = -1) : Sqn (qmk s x y) := by
  have hg : 0 < Nat.gcd x y := Nat.gcd_pos_of_pos_right _ hy
  have hd : 0 < (qmk s x y).2.2 := (qmk_gcd hy).1
  by_cases c : x = 0
  · subst c
    have e1 : (qmk s 0 y).1 = 0 := by unfold qmk; rw [if_pos rfl]
    have e2 : (qmk s 0 y).2.1 = 0 := Nat.zero_div _
    exact ⟨Or.inl e1, ⟨fun _ => e2, fun _ => e1⟩, hd⟩
  · have e1 : (qmk s x y).1 = s := if_neg c
    have e2 : 0 < (qmk s x y).2.1 := Nat.div_pos (Nat.gcd_le_left _ (by omega)) hg
    have h := hs c
    refine ⟨by rw [e1]; omega, ⟨fun z => by rw [e1] at z; omega, fun z => by omega⟩, hd⟩
theorem qok.sqn {q : Qv} (h : qok q) : Sqn q := ⟨h.1, h.2.1, h.2.2.1⟩
theorem tot_sq {f : Nat} : ∀ (vs : List Qv) (a : Qv), (∀ v ∈ vs, qok v) → Sqn a → Sqn (totQ f vs a)
  | [], _, _, h => h
  | v :: vs, a, hv, h => by
    have hq := hv v List.mem_cons_self
    have hp := Nat.mul_pos h.2.2 hq.2.2.1
    refine tot_sq vs _ (fun w hw => hv w (List.mem_cons_of_mem _ hw)) ?_
    by_cases c : f = 0
    · rw [if_pos c]
      refine qmk_sq hp (jn_nz h.1 hq.1 ?_ ?_)
      · rw [h.2.1]
        exact ⟨fun z => by rw [z, Nat.zero_mul], fun z => (Nat.mul_eq_zero.mp z).resolve_right (by have := hq.2.2.1; omega)⟩
      · rw [hq.2.1]
        exact ⟨fun z => by rw [z, Nat.zero_mul], fun z => (Nat.mul_eq_zero.mp z).resolve_right (by have := h.2.2; omega)⟩
    · rw [if_neg c]
      refine qmk_sq hp (fun z => ?_)
      have z1 : a.2.1 ≠ 0 := fun q => z (by rw [q, Nat.zero_mul])
      have z2 : v.2.1 ≠ 0 := fun q => z (by rw [q, Nat.mul_zero])
      have s1 : a.1 ≠ 0 := fun q => z1 (h.2.1.mp q)
      have s2 : v.1 ≠ 0 := fun q => z2 (hq.2.1.mp q)
      rcases h.1 with q | q | q
      · exact absurd q s1
      · rcases hq.1 with w | w | w
        · exact absurd w s2
        · rw [q, w]; exact Or.inl rfl
        · rw [q, w]; exact Or.inr rfl
      · rcases hq.1 with w | w | w
        · exact absurd w s2
        · rw [q, w]; exact Or.inr rfl
        · rw [q, w]; exact Or.inl rfl
def totS (f : Nat) (vs : List Qv) : Qv := totQ f vs (if f = 0 then (0, 0, 1) else (1, 1, 1))
/-- what is made of a row's values -/
def alc (w : Nat) (vs : List Qv) : Qv := if w = 2 then qmk ((totS 0 vs).1 * 1) ((totS 0 vs).2.1 * 1) ((totS 0 vs).2.2 * vs.length) else totS (if w = 1 then 1 else 0) vs
theorem totS_sq {f : Nat} {vs : List Qv} (hv : ∀ v ∈ vs, qok v) : Sqn (totS f vs) := by
  refine tot_sq vs _ hv ?_
  split
  · exact ⟨Or.inl rfl, ⟨fun _ => rfl, fun _ => rfl⟩, Nat.one_pos⟩
  · exact ⟨Or.inr (Or.inl rfl), ⟨fun z => (by have z : (1 : Int) = 0 := z; omega), fun z => (by have z : (1 : Nat) = 0 := z; omega)⟩, Nat.one_pos⟩
theorem cx_totalOf {x a f : Nat} {vs : List Qv} {σ : St} (hf : f ≤ 1) (hp : HP (PX x) σ) (hx : XS σ x) (hR : Rwv σ x a vs) : Hx (fX5_totalOf σ (x + 18) a (nI f)) (fun σ' v => cW x (sUn x) 0 0 σ σ' ∧ (v = x + 50 ∨ v = x + 55) ∧ FX σ' v (totS f vs).1 (totS f vs).2.1 (totS f vs).2.2 ∧ Acq vs.length (totS f vs)) := by
  have h24 : ∀ (w : Nat), w = (if f = 0 then 0 else 1) → Hx (fX5_totalOf_24 σ (x + 18) a (nI f) (x + 50) (x + 55) (x + 51) (nJ w)) (fun σ' v => cW x (sUn x) 0 0 σ σ' ∧ (v = x + 50 ∨ v = x + 55) ∧ FX σ' v (totS f vs).1 (totS f vs).2.1 (totS f vs).2.2 ∧ Acq vs.length (totS f vs)) := by
    intro w hw
    have hw1 : w ≤ 1 := by rw [hw]; split <;> omega
    obtain ⟨n1, hn1⟩ := hp.2 (x + 51) (by simp)
    rw [n_fX5_totalOf_24, show ckK σ 8 (x + 51) = some () from hx.ck 51 8 (by decide)]
    refine hx_bs ?_
    refine Hx.bd (cw_setSmall hp hn1 (by omega)) (fun σ1 _ g => ?_)
    obtain ⟨hF1, hN1⟩ := g
    have hx1 := hx.kW hF1
    have G1 : cW x (sUn x) 0 0 σ σ1 := hF1.mo (fun r _ hr => by simp only [s1] at hr; unfold sUn; omega) (Nat.le_refl _) (Nat.le_refl _)
    rw [show gF σ1 5 2 (x + 50) = some (x + 53) from hx1.gf 5 2 50 53 (by decide) (by decide)]
    refine hx_bs ?_
    rw [show ckK σ1 8 (x + 53) = some () from hx1.ck 53 8 (by decide)]
    refine hx_bs ?_
    obtain ⟨n2, hn2⟩ := hF1.hp.2 (x + 53) (by simp)
    refine Hx.bd (cw_setSmall (v := 1) hF1.hp hn2 (by omega)) (fun σ2 _ g => ?_)
    obtain ⟨hF2, hD2⟩ := g
    have hx2 := hx1.kW hF2
    have hN2 := hN1.kW hF2 (by simp only [s1]; omega)
    have G2 := G1.tr0 hF2 (fun r _ hr => by simp only [s1] at hr; unfold sUn; omega)
    rw [show ckK σ2 6 (x + 50) = some () from hx2.ck 50 6 (by decide)]
    refine hx_bs ?_
    rw [show nI 1 = iz (1 : Int) from rfl]
    refine Hx.bd (cf_setSign hF2.hp (hx2.fs 50 (by omega)) (show Nt σ2 (x + 50 + 1) w from hN2)) (fun σ3 _ g => ?_)
    obtain ⟨hF3, hS3⟩ := g
    have hx3 := hx2.kW hF3
    have G3 := G2.tr0 hF3 (fun r _ hr => by simp only [s1] at hr; unfold sUn; omega)
    have hX3 : FX σ3 (x + 50) (if w = 0 then 0 else 1) w 1 := ⟨hx3.fs 50 (by omega), hS3, hN2.kW hF3 (by simp only [s1]; omega), hD2.kW hF3 (by simp only [s1]; omega)⟩
    have hacc : (if f = 0 then ((0, 0, 1) : Qv) else (1, 1, 1)) = ((if w = 0 then 0 else 1), w, 1) := by
      by_cases c : f = 0
      · rw [if_pos c] at hw ⊢
        rw [hw]
        rfl
      · rw [if_neg c] at hw ⊢
        rw [hw]
        rfl
    refine (cl_tot (vs := vs) hf vs.length FU 0 (x + 50) (x + 55) ((if w = 0 then 0 else 1), w, 1) σ3 (by have := hR.1.2; unfold FU; omega) (by omega) (Or.inl ⟨rfl, rfl⟩) G3.hp hx3 (hR.kW G3) hX3 ⟨?_, Nat.one_pos, Nat.gcd_one_right _, ?_, ?_⟩).mo (fun σ4 v g => ?_)
    · show -1 ≤ (if w = 0 then (0 : Int) else 1) ∧ (if w = 0 then (0 : Int) else 1) ≤ 1
      split <;> omega
    · show w ≤ (0 + 1) * dig30 ^ 0
      rw [Nat.pow_zero]; omega
    · show 1 ≤ dig30 ^ 0
      rw [Nat.pow_zero]; omega
    · have e : totQ f (vs.drop 0) ((if w = 0 then 0 else 1), w, 1) = totS f vs := by
        unfold totS
        rw [hacc, List.drop_zero]
      rw [e] at g
      exact ⟨G3.tr0 g.1 (fun _ _ h => h), g.2⟩
  rw [n_fX5_totalOf, show gF σ 9 14 (x + 18) = some (x + 50) from hx.gf 9 14 18 50 (by decide) (by decide)]
  refine hx_bs ?_
  rw [show gF σ 9 15 (x + 18) = some (x + 55) from hx.gf 9 15 18 55 (by decide) (by decide)]
  refine hx_bs ?_
  rw [show gF σ 5 1 (x + 50) = some (x + 51) from hx.gf 5 1 50 51 (by decide) (by decide)]
  refine hx_bs (Hx.ce (sm_eq (by omega) (by omega)) (fun c => h24 0 (by rw [if_pos c])) (fun c => h24 1 (by rw [if_neg c])))
theorem cx_meanOf {x a : Nat} {vs : List Qv} {σ : St} (hp : HP (PX x) σ) (hx : XS σ x) (hR : Rwv σ x a vs) (hl : 0 < vs.length) : Hx (fX5_meanOf σ (x + 18) a) (fun σ' v => cW x (sUn x) 0 0 σ σ' ∧ v = x + 50 ∧ FX σ' v (alc 2 vs).1 (alc 2 vs).2.1 (alc 2 vs).2.2) := by
  have hl50 := hR.1.2
  rw [n_fX5_meanOf, show gF σ 9 16 (x + 18) = some (x + 60) from hx.gf 9 16 18 60 (by decide) (by decide)]
  refine hx_bs ?_
  rw [hx.ck 18 10 (by decide)]
  refine hx_bs ?_
  refine Hx.bd (cx_totalOf (f := 0) (by omega) hp hx hR) (fun σ1 t g => ?_)
  obtain ⟨G1, ht, hT1, hac⟩ := g
  have hx1 := hx.kW G1
  have hs := hac.s hl50
  rw [show ckK σ1 6 (x + 60) = some () from hx1.ck 60 6 (by decide)]
  refine hx_bs ?_
  obtain ⟨n7, hn7⟩ := G1.hp.2 (x + 60 + 1) (by simp)
  obtain ⟨d7, hd7⟩ := G1.hp.2 (x + 60 + 3) (by simp)
  have fs7 := hx1.fs 60 (by omega)
  refine Hx.bd (cf_setTo G1.hp ⟨fs7, ⟨fs7.1, (iz_of _).symm⟩, hn7, hd7⟩ hT1 (by omega) (Or.inl (show x + 60 + 1 ∈ PX x by simp)) (Or.inl (show x + 60 + 3 ∈ PX x by simp)) (lt_bp hs.1 (by omega)) (lt_bp hs.2 (by omega))) (fun σ2 _ g => ?_)
  obtain ⟨hF2, hX2⟩ := g
  have hx2 := hx1.kW hF2
  have G2 := G1.tr0 hF2 (fun r _ hr => by simp only [s3] at hr; unfold sUn; omega)
  rw [show gF σ2 9 13 (x + 18) = some (x + 45) from hx2.gf 9 13 18 45 (by decide) (by decide)]
  refine hx_bs ?_
  rw [show gF σ2 5 1 (x + 45) = some (x + 46) from hx2.gf 5 1 45 46 (by decide) (by decide)]
  refine hx_bs ?_
  rw [show ckK σ2 8 (x + 46) = some () from hx2.ck 46 8 (by decide)]
  refine hx_bs ?_
  obtain ⟨n6, hn6⟩ := G2.hp.2 (x + 46) (by simp)
  refine Hx.bd (cw_setSmall (v := 1) G2.hp hn6 (by omega)) (fun σ3 _ g => ?_)
  obtain ⟨hF3, hN3⟩ := g
  have hx3 := hx2.kW hF3
  have G3 := G2.tr0 hF3 (fun r _ hr => by simp only [s1] at hr; unfold sUn; omega)
  have hX3 := hX2.kW hF3 (by simp only [s1]; omega)
  rw [show gF σ3 9 13 (x + 18) = some (x + 45) from hx3.gf 9 13 18 45 (by decide) (by decide)]
  refine hx_bs ?_
  rw [show gF σ3 5 2 (x + 45) = some (x + 48) from hx3.gf 5 2 45 48 (by decide) (by decide)]
  refine hx_bs ?_
  have hR3 := hR.kW G3
  rw [sm_aln hR3.2.1.1 (by omega), hR3.2.1.2]
  refine hx_bs ?_
  rw [show ckK σ3 8 (x + 48) = some () from hx3.ck 48 8 (by decide)]
  refine hx_bs ?_
  have elen : (if nI vs.length < nI 1 then nI 1 else nI vs.length) = nI vs.length := by
    rw [if_neg (by rw [sm_lt (by omega) (by omega)]; omega)]
  rw [elen, jm_of (by omega)]
  obtain ⟨n8, hn8⟩ := G3.hp.2 (x + 48) (by simp)
  refine Hx.bd (cw_setSmall G3.hp hn8 (by omega)) (fun σ4 _ g => ?_)
  obtain ⟨hF4, hD4⟩ := g
  have hx4 := hx3.kW hF4
  have G4 := G3.tr0 hF4 (fun r _ hr => by simp only [s1] at hr; unfold sUn; omega)
  have hX4 := hX3.kW hF4 (by simp only [s1]; omega)
  have hN4 := hN3.kW hF4 (by simp only [s1]; omega)
  rw [show gF σ4 9 13 (x + 18) = some (x + 45) from hx4.gf 9 13 18 45 (by decide) (by decide)]
  refine hx_bs ?_
  have fsT := hx4.fs 45 (by omega)
  have k6 : sK σ4 (x + 45) = 6 := fsT.1
  rw [sm_pI (ci := 5) k6]
  refine hx_bs ?_
  have hF5 := cWi (f := fid 5 0) (v := nI 1) G4.hp (show sK σ4 (x + 45) ≠ 8 by omega) (show sK σ4 (x + 45) ≠ 100 by omega)
  have G5 := G4.tr0 hF5 (fun r _ hr => by simp only [s1] at hr; unfold sUn; omega)
  have hx5 := hx4.kW hF5
  have hsg5 : Sg (wI σ4 (fid 5 0) (x + 45) (iz 1)) (x + 45) 1 := SgI k6
  rw [show iz 1 = nI 1 from rfl] at hsg5
  have hT5 : FX (wI σ4 (fid 5 0) (x + 45) (nI 1)) (x + 45) 1 1 vs.length := ⟨fsT.kW hF5, hsg5, hN4.kW hF5 (by simp only [s1]; omega), hD4.kW hF5 (by simp only [s1]; omega)⟩
  have hX5 := hX4.kW hF5 (by simp only [s1]; omega)
  generalize wI σ4 (fid 5 0) (x + 45) (nI 1) = σ5 at *
  rw [show gF σ5 9 16 (x + 18) = some (x + 60) from hx5.gf 9 16 18 60 (by decide) (by decide)]
  refine hx_bs ?_
  rw [show gF σ5 9 13 (x + 18) = some (x + 45) from hx5.gf 9 13 18 45 (by decide) (by decide)]
  refine hx_bs ?_
  rw [show gF σ5 9 14 (x + 18) = some (x + 50) from hx5.gf 9 14 18 50 (by decide) (by decide)]
  refine hx_bs ?_
  rw [hx5.ck 18 10 (by decide)]
  refine hx_bs ?_
  refine Hx.bd (cr_multiply G5.hp hx5 hX5 hT5 (hx5.fs 50 (by omega)) (by simp) (by simp) (by omega) (by omega) (by omega) (by omega) (by omega) hs.1 hs.2 (lt_bp (sml_lit (show 1 < 1000000000 by omega)) (by omega)) (lt_bp (sml_lit (show vs.length < 1000000000 by omega)) (by omega)) hac.2.1 hl hac.2.2.1 (Nat.gcd_one_left _)) (fun σ6 _ g => ?_)
  obtain ⟨hF6, q, hq, hX6⟩ := g
  have hx6 := hx5.kW hF6
  rw [show gF σ6 9 14 (x + 18) = some (x + 50) from hx6.gf 9 14 18 50 (by decide) (by decide)]
  have e : q = alc 2 vs := by rw [hq]; exact (if_pos rfl).symm
  rw [e] at hX6
  exact hx_bs (Hx.ret ⟨G5.tr0 hF6 (fun r _ hr => by simp only [sR] at hr; unfold sUn; omega), rfl, hX6⟩)
theorem alc_sq {w : Nat} {vs : List Qv} (hv : ∀ v ∈ vs, qok v) (hl : w = 2 → 0 < vs.length) : Sqn (alc w vs) := by
  by_cases c : w = 2
  · have h := totS_sq (f := 0) hv
    have e : alc w vs = qmk ((totS 0 vs).1 * 1) ((totS 0 vs).2.1 * 1) ((totS 0 vs).2.2 * vs.length) := if_pos c
    rw [e]
    refine qmk_sq (Nat.mul_pos h.2.2 (hl c)) (fun z => ?_)
    rw [Nat.mul_one] at z
    rw [Int.mul_one]
    have : (totS 0 vs).1 ≠ 0 := fun q => z (h.2.1.mp q)
    have := h.1
    omega
  · have e : alc w vs = totS (if w = 1 then 1 else 0) vs := if_neg c
    rw [e]
    exact totS_sq hv
theorem alc_gcd {w : Nat} {vs : List Qv} (hv : ∀ v ∈ vs, qok v) (hl : w = 2 → 0 < vs.length) (hac : ¬ w = 2 → Nat.gcd (alc w vs).2.1 (alc w vs).2.2 = 1) : Nat.gcd (alc w vs).2.1 (alc w vs).2.2 = 1 := by
  by_cases c : w = 2
  · have h := totS_sq (f := 0) hv
    have e : alc w vs = qmk ((totS 0 vs).1 * 1) ((totS 0 vs).2.1 * 1) ((totS 0 vs).2.2 * vs.length) := if_pos c
    rw [e]
    exact (qmk_gcd (Nat.mul_pos h.2.2 (hl c))).2
  · exact hac c
theorem ki_takeAll {σ : St} {x o : Nat} {s : Kst} {A : As} {vs : List Qv} {z y : Int} (hz : -2147483648 ≤ z ∧ z < 2147483648) (hy : -2147483648 ≤ y ∧ y < 2147483648) (h : KI σ x o s) (hA : s.2.2.2.2.2.2.2.2[s.2.2.2.2.2.2.2.1]? = some A) (hvs : 0 ≤ z → z ≤ 2 → A.2.2[z.toNat]? = some vs) : Hx (fX11_takeAll σ x (iz z) (iz y)) (fun σ' u =>
    (¬ ((0 ≤ z ∧ z ≤ 2) ∧ 0 ≤ y ∧ y ≤ 2) → KO x 15 5 s (some "java/lang/IllegalArgumentException") 0 σ σ' u) ∧ ((0 ≤ z ∧ z ≤ 2) ∧ (0 ≤ y ∧ y ≤ 2) → (y = 2 ∧ vs = [] → KO x 15 5 s (some "java/util/NoSuchElementException") 0 σ σ' u) ∧ (¬ (y = 2 ∧ vs = []) →
      (qsm (alc y.toNat vs) → KO x 15 5 (ansK s (alc y.toNat vs)) none (alc y.toNat vs).1 σ σ' u) ∧ (¬ qsm (alc y.toNat vs) → KO x 15 5 s (some "java/lang/ArithmeticException") 0 σ σ' u)))) := by
  obtain ⟨hp, hx, _, _, hQ⟩ := id h.1
  have bad : ∀ (e : String) (val : Int), KO x 15 5 s (some e) val σ (th σ) (.inl e) := fun e val => ⟨rfl, σ, rfl, ⟨o, h⟩, (cO.rf hp).mo (by omega) (by omega)⟩
  rw [n_fX11_takeAll, sm_ckK hx.k0]
  refine hx_bs ?_
  by_cases cz : 0 ≤ z ∧ z ≤ 2
  · obtain ⟨r, rfl⟩ := Int.eq_ofNat_of_zero_le cz.1
    have hvs : A.2.2[r]? = some vs := hvs cz.1 cz.2
    rw [show iz ((r : Nat) : Int) = nI r from (sm_iz r).symm, cx_rowE hx h.2.2.2.2.1 hA (by omega)]
    refine hx_cs (Hx.cs (fun c => absurd c (by decide)) (fun _ => ?_))
    refine Hx.ce (show (iz y < nI 0) = (y < 0) by rw [show nI 0 = iz 0 from rfl, iz_lt (by omega) (by omega) (by omega) (by omega)]) (fun c => ?_) (fun c => ?_)
    · rw [n_fX11_takeAll_17]
      exact Hx.ret ⟨fun _ => bad _ _, fun q => absurd q.2.1 (by omega)⟩
    refine Hx.ce (show (iz y ≤ nI 2) = (y ≤ 2) by rw [show nI 2 = iz 2 from rfl, iz_le (by omega) (by omega) (by omega) (by omega)]) (fun c2 => ?_) (fun c2 => ?_)
    · obtain ⟨w, rfl⟩ := Int.eq_ofNat_of_zero_le (show 0 ≤ y by omega)
      have hw2 : w ≤ 2 := by omega
      show Hx _ (fun σ' u => (¬ ((0 ≤ (r : Int) ∧ (r : Int) ≤ 2) ∧ 0 ≤ (w : Int) ∧ (w : Int) ≤ 2) → KO x 15 5 s (some "java/lang/IllegalArgumentException") 0 σ σ' u) ∧ ((0 ≤ (r : Int) ∧ (r : Int) ≤ 2) ∧ (0 ≤ (w : Int) ∧ (w : Int) ≤ 2) → ((w : Int) = 2 ∧ vs = [] → KO x 15 5 s (some "java/util/NoSuchElementException") 0 σ σ' u) ∧ (¬ ((w : Int) = 2 ∧ vs = []) →
      (qsm (alc w vs) → KO x 15 5 (ansK s (alc w vs)) none (alc w vs).1 σ σ' u) ∧ (¬ qsm (alc w vs) → KO x 15 5 s (some "java/lang/ArithmeticException") 0 σ σ' u))))
      rw [show iz ((w : Nat) : Int) = nI w from (sm_iz w).symm]
      obtain ⟨t, ra, pr, hS, f1, l1, hR, ck⟩ := h.2.2.2.2.1.row hx hA hvs
      obtain ⟨a, g1, g2, g3, g4, g5⟩ := hR.f
      have hl50 := hR.1.2.2
      have ha84 : x + 84 < a := by
        have hR11 := hR.1.2.1
        obtain ⟨_, a', q1, q2, _⟩ := id hR
        have : a' = a := by
          have e := (sm_gF (ci := 10) (k := 0) hR11).symm.trans g1
          rw [q1] at e
          exact Option.some.inj e
        rw [← this]
        exact q2.1
      have hRw : Rwv σ x a vs := ⟨⟨ha84, hl50⟩, ⟨g3, g4⟩, fun i q hi => by
        obtain ⟨_, k1, _, k3, k4⟩ := g5 i q hi
        exact ⟨k1, k3, k4⟩⟩
      have hvq : ∀ v ∈ vs, qok v := fun v hv => by
        obtain ⟨i, hi⟩ := List.getElem?_of_mem hv
        exact (hRw.2.2 i v hi).2.1
      rw [sm_ckK hx.k0]
      refine hx_bs ?_
      rw [pr]
      refine hx_cs ?_
      rw [f1]
      refine hx_bs ?_
      rw [l1]
      refine hx_bs ?_
      rw [g1]
      refine hx_bs ?_
      -- what is made: copied if it fits
      have h90 : ∀ (τ : St) (b : Nat), cW x (sUn x) 0 0 σ τ → FX τ b (alc w vs).1 (alc w vs).2.1 (alc w vs).2.2 → (w = 2 → 0 < vs.length) → Nat.gcd (alc w vs).2.1 (alc w vs).2.2 = 1 → Hx (fX11_takeAll_90 τ x b) (fun σ' u => (qsm (alc w vs) → KO x 15 5 (ansK s (alc w vs)) none (alc w vs).1 σ σ' u) ∧ (¬ qsm (alc w vs) → KO x 15 5 s (some "java/lang/ArithmeticException") 0 σ σ' u)) := by
        intro τ b hG hX hl hgc
        obtain ⟨hK, hO⟩ := h.lowr hG (fun r hr => hr)
        rw [n_fX11_takeAll_90, sm_ckK hX.1.1]
        refine hx_bs ?_
        rw [cf_fits hX]
        refine hx_cs (Hx.ce nb0 (fun c => ?_) (fun c => ?_))
        · rw [lit30] at c
          exact Hx.ret ⟨fun q => absurd q c, fun _ => ⟨rfl, τ, rfl, ⟨o, hK⟩, hO.mo (by omega) (by omega)⟩⟩
        · have c := Classical.not_not.mp c
          rw [lit30] at c
          have hsq := alc_sq hvq hl
          have hqo : qok (alc w vs) := ⟨hsq.1, hsq.2.1, hsq.2.2, hgc, c.1, c.2⟩
          rw [sm_ckK hK.1.2.1.k0]
          refine hx_bs ?_
          refine Hx.bd (ki_copy hK hqo hX) (fun σ2 v g => ?_)
          obtain ⟨rfl, hK2, hO2⟩ := g
          exact Hx.ret ⟨fun _ => ⟨rfl, hK2, (hO.tr hO2).mo (by omega) (by omega)⟩, fun q => absurd c q⟩
      have h56 : (w = 2 → 0 < vs.length) → Hx (fX11_takeAll_56 σ x (nI w) a) (fun σ' u => (qsm (alc w vs) → KO x 15 5 (ansK s (alc w vs)) none (alc w vs).1 σ σ' u) ∧ (¬ qsm (alc w vs) → KO x 15 5 s (some "java/lang/ArithmeticException") 0 σ σ' u)) := by
        intro hl
        have e16 : gF σ 15 16 x = some (x + 18) := hx.gf 15 16 0 18 (by decide) (by decide)
        have ck18 := hx.ck 18 10 (by decide)
        rw [n_fX11_takeAll_56]
        refine Hx.ce (sm_eq (by omega) (by omega)) (fun c => ?_) (fun c => ?_)
        · rw [e16]
          refine hx_bs ?_
          rw [ck18]
          refine hx_bs ?_
          refine Hx.bd (cx_meanOf hp hx hRw (hl c)) (fun σ1 v g => ?_)
          obtain ⟨G1, _, hX1⟩ := g
          subst c
          exact h90 σ1 v G1 hX1 hl (alc_gcd hvq hl (fun q => absurd rfl q))
        · rw [e16]
          refine hx_bs ?_
          have go : ∀ f, f = (if w = 1 then 1 else 0) → Hx (fX11_takeAll_87 σ x (x + 18) a (nI f)) (fun σ' u => (qsm (alc w vs) → KO x 15 5 (ansK s (alc w vs)) none (alc w vs).1 σ σ' u) ∧ (¬ qsm (alc w vs) → KO x 15 5 s (some "java/lang/ArithmeticException") 0 σ σ' u)) := by
            intro f hf
            have e : alc w vs = totS f vs := by rw [hf]; exact if_neg c
            rw [n_fX11_takeAll_87, ck18]
            refine hx_bs ?_
            refine Hx.bd (cx_totalOf (f := f) (by rw [hf]; split <;> omega) hp hx hRw) (fun σ1 v g => ?_)
            obtain ⟨G1, _, hX1, hac⟩ := g
            exact h90 σ1 v G1 (by rw [e]; exact hX1) hl (by rw [e]; exact hac.2.2.1)
          refine Hx.ce (sm_eq (by omega) (by omega)) (fun c3 => go 1 (by rw [if_pos c3])) (fun c3 => go 0 (by rw [if_neg c3]))
      refine Hx.ce (sm_eq (by omega) (by omega)) (fun c3 => ?_) (fun c3 => ?_)
      · rw [g2]
        refine hx_bs (Hx.ce (sm_eq (by omega) (by omega)) (fun c4 => ?_) (fun c4 => ?_))
        · have e0 : vs = [] := List.length_eq_zero_iff.mp c4
          exact Hx.ret ⟨fun q => absurd ⟨cz, by omega, by omega⟩ q, fun _ => ⟨fun _ => bad _ _, fun q => absurd ⟨by omega, e0⟩ q⟩⟩
        · refine (h56 (fun _ => by omega)).mo (fun σ' u g => ⟨fun q => absurd ⟨cz, by omega, by omega⟩ q, fun _ => ⟨fun q => absurd (by rw [q.2]; rfl) c4, fun _ => g⟩⟩)
      · refine (h56 (fun q => absurd q c3)).mo (fun σ' u g => ⟨fun q => absurd ⟨cz, by omega, by omega⟩ q, fun _ => ⟨fun q => absurd (by omega) c3, fun _ => g⟩⟩)
    · rw [n_fX11_takeAll_17]
      exact Hx.ret ⟨fun _ => bad _ _, fun q => absurd q.2.2 (by omega)⟩
  · have hr : ¬ ∃ r : Nat, r < 3 ∧ iz z = nI r := fun q => cz (by have := (ix_in hz (by omega)).mp q; omega)
    rw [cx_noRow hx h.2.2.2.2.1 hA hr]
    refine hx_cs (Hx.cs (fun _ => ?_) (fun c => absurd rfl c))
    rw [n_fX11_takeAll_17]
    exact Hx.ret ⟨fun _ => bad _ _, fun q => absurd q.1 cz⟩
