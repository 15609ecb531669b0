/-! ===== calls of the one that was built: the best approximation ===== -/
/-- how far low and high are off, low, high -/
abbrev Sb := Nat × Nat × Nat × Nat × Nat × Nat
def sbl (bd : Nat) : Nat → Sb → Sb
  | 0, s => s
  | k + 1, s => if bd < s.2.2.2.1 + s.2.2.2.2.2 then s else if s.1 = 0 then s else
    if s.1 < s.2.1 then sbl bd k (s.1, s.2.1 - s.1, s.2.2.1, s.2.2.2.1, s.2.2.2.2.1 + s.2.2.1, s.2.2.2.2.2 + s.2.2.2.1)
    else sbl bd k (s.1 - s.2.1, s.2.1, s.2.2.1 + s.2.2.2.2.1, s.2.2.2.1 + s.2.2.2.2.2, s.2.2.2.2.1, s.2.2.2.2.2)
def SbI (bd d : Nat) (s : Sb) : Prop := (0 < s.2.2.2.1 ∧ s.2.2.2.1 ≤ bd ∧ 0 < s.2.2.2.2.2 ∧ s.2.2.2.2.2 ≤ bd) ∧ (s.2.2.1 ≤ s.2.2.2.1 ∧ s.2.2.2.2.1 ≤ s.2.2.2.2.2) ∧ s.2.2.2.2.1 * s.2.2.2.1 = s.2.2.1 * s.2.2.2.2.2 + 1 ∧ s.1 ≤ d ∧ s.2.1 ≤ d
def sb0 (q : Qv) : Sb := (abv q, q.2.2 - abv q, 0, 1, 1, 1)
def sbS (q : Qv) (bd : Nat) : Sb := sbl bd 1000 (sb0 q)
def sbLow (s : Sb) : Prop := s.1 * s.2.2.2.2.2 < s.2.1 * s.2.2.2.1 ∨ (s.1 * s.2.2.2.2.2 = s.2.1 * s.2.2.2.1 ∧ s.2.2.2.1 ≤ s.2.2.2.2.2)
/-- a fraction from 0 to 1 is added to a whole number -/
def sbA (q : Qv) (a b : Nat) : Qv := qmk (jnS (if flo q = 0 then 0 else q.1) (if a = 0 then 0 else 1) (flo q * b) a) (jnN (if flo q = 0 then 0 else q.1) (if a = 0 then 0 else 1) (flo q * b) a) b
noncomputable def sbN (s : Sb) : Nat × Nat := @ite _ (sbLow s) (Classical.propDecidable _) (s.2.2.1, s.2.2.2.1) (s.2.2.2.2.1, s.2.2.2.2.2)
noncomputable def sbQ (q : Qv) (bd : Nat) : Qv := sbA q (sbN (sbS q bd)).1 (sbN (sbS q bd)).2
noncomputable def sbC (q : Qv) (bd : Nat) : Int := if (sbS q bd).1 = 0 then 0 else @ite _ (sbLow (sbS q bd)) (Classical.propDecidable _) (-1) 1
theorem SbI.gcd {bd d : Nat} {s : Sb} (h : SbI bd d s) : Nat.gcd s.2.2.1 s.2.2.2.1 = 1 ∧ Nat.gcd s.2.2.2.2.1 s.2.2.2.2.2 = 1 := by
  have h3 := h.2.2.1
  constructor
  · have h1 := Nat.dvd_trans (Nat.gcd_dvd_right s.2.2.1 s.2.2.2.1) (Nat.dvd_mul_left s.2.2.2.1 s.2.2.2.2.1)
    rw [h3] at h1
    have h2 := Nat.dvd_trans (Nat.gcd_dvd_left s.2.2.1 s.2.2.2.1) (Nat.dvd_mul_right s.2.2.1 s.2.2.2.2.2)
    exact Nat.dvd_one.mp ((Nat.dvd_add_right h2).mp h1)
  · have h1 := Nat.dvd_trans (Nat.gcd_dvd_left s.2.2.2.2.1 s.2.2.2.2.2) (Nat.dvd_mul_right s.2.2.2.2.1 s.2.2.2.1)
    rw [h3] at h1
    have h2 := Nat.dvd_trans (Nat.gcd_dvd_right s.2.2.2.2.1 s.2.2.2.2.2) (Nat.dvd_mul_left s.2.2.2.2.2 s.2.2.1)
    exact Nat.dvd_one.mp ((Nat.dvd_add_right h2).mp h1)
theorem cl_sb {x bd d n0 d0 : Nat} {s0 : Int} {P : St → Int32 → Prop} (hbd : bd ≤ 1000) (hd : d < dig30) : ∀ (k n : Nat) (s : Sb) (σ : St), k < n → bd < s.2.2.2.1 + s.2.2.2.2.2 + k → SbI bd d s → HP (PX x) σ → XS σ x → Nt σ (x + 37) s.1 → Nt σ (x + 39) s.2.1 → FX σ (x + 60) s0 n0 d0 →
    (∀ σ', cW x (s2 (x + 37) (x + 39)) 0 0 σ σ' → SbI bd d (sbl bd k s) → Nt σ' (x + 37) (sbl bd k s).1 → Nt σ' (x + 39) (sbl bd k s).2.1 → FX σ' (x + 60) s0 n0 d0 → Hx (fX5_bestWithin_135 σ' (x + 18) (nI (sbl bd k s).2.2.1) (nI (sbl bd k s).2.2.2.1) (nI (sbl bd k s).2.2.2.2.1) (nI (sbl bd k s).2.2.2.2.2)) P) →
    Hx (fX5_bestWithin_49 n σ (x + 18) (nI bd) (nI s.2.2.1) (nI s.2.2.2.1) (nI s.2.2.2.2.1) (nI s.2.2.2.2.2)) P := by
  intro k
  induction k with
  | zero =>
    intro n s σ hn hk hI hP hx hL hR hF hc
    obtain ⟨n, rfl⟩ : ∃ j, n = j + 1 := ⟨n - 1, by omega⟩
    obtain ⟨⟨i1, i2, i3, i4⟩, _⟩ := id hI
    rw [n_fX5_bestWithin_49, sm_add]
    refine Hx.ce (sm_lt (by omega) (by omega)) (fun _ => hc σ (cW.rf hP) hI hL hR hF) (fun c => absurd c (by omega))
  | succ k ih =>
    intro n s σ hn hk hI hP hx hL hR hF hc
    obtain ⟨n, rfl⟩ : ∃ j, n = j + 1 := ⟨n - 1, by omega⟩
    obtain ⟨⟨i1, i2, i3, i4⟩, ⟨i5, i6⟩, i7, i8, i9⟩ := id hI
    rw [n_fX5_bestWithin_49, sm_add]
    refine Hx.ce (sm_lt (by omega) (by omega)) (fun c => ?_) (fun c => ?_)
    · have e : sbl bd (k + 1) s = s := if_pos c
      rw [e] at hc
      exact hc σ (cW.rf hP) hI hL hR hF
    · rw [show gF σ 9 9 (x + 18) = some (x + 37) from hx.gf 9 9 18 37 (by decide) (by decide)]
      refine hx_bs ?_
      rw [show ckK σ 8 (x + 37) = some () from hx.ck 37 8 (by decide)]
      refine hx_bs ?_
      rw [cn_isZero hL]
      refine hx_cs (Hx.ce nb0 (fun c2 => ?_) (fun c2 => ?_))
      · rw [show gF σ 9 9 (x + 18) = some (x + 37) from hx.gf 9 9 18 37 (by decide) (by decide)]
        refine hx_bs ?_
        rw [show gF σ 9 10 (x + 18) = some (x + 39) from hx.gf 9 10 18 39 (by decide) (by decide)]
        refine hx_bs ?_
        rw [show ckK σ 8 (x + 37) = some () from hx.ck 37 8 (by decide)]
        refine hx_bs ?_
        rw [cn_against hL hR]
        have hcb := cmp3_b s.1 s.2.1
        refine hx_cs (Hx.ce (show (iz (cmp3 s.1 s.2.1) < nI 0) = (cmp3 s.1 s.2.1 < 0) by rw [show nI 0 = iz 0 from rfl, iz_lt (by omega) (by omega) (by omega) (by omega)]) (fun c3 => ?_) (fun c3 => ?_))
        · rw [cmp3_lt] at c3
          have e : sbl bd (k + 1) s = sbl bd k (s.1, s.2.1 - s.1, s.2.2.1, s.2.2.2.1, s.2.2.2.2.1 + s.2.2.1, s.2.2.2.2.2 + s.2.2.2.1) := by
            rw [sbl, if_neg c, if_neg c2, if_pos c3]
          rw [e] at hc
          rw [show gF σ 9 10 (x + 18) = some (x + 39) from hx.gf 9 10 18 39 (by decide) (by decide)]
          refine hx_bs ?_
          rw [show gF σ 9 9 (x + 18) = some (x + 37) from hx.gf 9 9 18 37 (by decide) (by decide)]
          refine hx_bs ?_
          rw [show ckK σ 8 (x + 39) = some () from hx.ck 39 8 (by decide)]
          refine hx_bs ?_
          refine Hx.bd (cw_minus hP hR hL (by omega) (by omega)) (fun σ1 _ g => ?_)
          obtain ⟨hF1, hR1⟩ := g
          refine hx_nm (hx_nm ?_)
          rw [sm_add, sm_add]
          have F2 : cW x (s2 (x + 37) (x + 39)) 0 0 σ σ1 := hF1.mo (fun r _ hr => Or.inr hr) (Nat.le_refl _) (Nat.le_refl _)
          refine ih n (s.1, s.2.1 - s.1, s.2.2.1, s.2.2.2.1, s.2.2.2.2.1 + s.2.2.1, s.2.2.2.2.2 + s.2.2.2.1) σ1 (by omega) (show bd < s.2.2.2.1 + (s.2.2.2.2.2 + s.2.2.2.1) + k by omega) ⟨⟨i1, i2, ?_, ?_⟩, ⟨i5, ?_⟩, ?_, i8, ?_⟩ hF1.hp (hx.kW hF1) (hL.kW hF1 (by simp only [s1]; omega)) hR1 (hF.kW hF1 (by simp only [s1]; omega)) (fun σ' g1 g2 g3 g4 g5 => hc σ' (F2.tr0 g1 (fun _ _ h => h)) g2 g3 g4 g5)
          · show 0 < s.2.2.2.2.2 + s.2.2.2.1; omega
          · show s.2.2.2.2.2 + s.2.2.2.1 ≤ bd; omega
          · show s.2.2.2.2.1 + s.2.2.1 ≤ s.2.2.2.2.2 + s.2.2.2.1; omega
          · show (s.2.2.2.2.1 + s.2.2.1) * s.2.2.2.1 = s.2.2.1 * (s.2.2.2.2.2 + s.2.2.2.1) + 1
            rw [Nat.add_mul, Nat.mul_add]; omega
          · show s.2.1 - s.1 ≤ d; omega
        · rw [cmp3_lt] at c3
          have e : sbl bd (k + 1) s = sbl bd k (s.1 - s.2.1, s.2.1, s.2.2.1 + s.2.2.2.2.1, s.2.2.2.1 + s.2.2.2.2.2, s.2.2.2.2.1, s.2.2.2.2.2) := by
            rw [sbl, if_neg c, if_neg c2, if_neg c3]
          rw [e] at hc
          rw [show gF σ 9 9 (x + 18) = some (x + 37) from hx.gf 9 9 18 37 (by decide) (by decide)]
          refine hx_bs ?_
          rw [show gF σ 9 10 (x + 18) = some (x + 39) from hx.gf 9 10 18 39 (by decide) (by decide)]
          refine hx_bs ?_
          rw [show ckK σ 8 (x + 37) = some () from hx.ck 37 8 (by decide)]
          refine hx_bs ?_
          refine Hx.bd (cw_minus hP hL hR (by omega) (by omega)) (fun σ1 _ g => ?_)
          obtain ⟨hF1, hL1⟩ := g
          refine hx_nm (hx_nm ?_)
          rw [sm_add]
          have F2 : cW x (s2 (x + 37) (x + 39)) 0 0 σ σ1 := hF1.mo (fun r _ hr => Or.inl hr) (Nat.le_refl _) (Nat.le_refl _)
          refine ih n (s.1 - s.2.1, s.2.1, s.2.2.1 + s.2.2.2.2.1, s.2.2.2.1 + s.2.2.2.2.2, s.2.2.2.2.1, s.2.2.2.2.2) σ1 (by omega) (show bd < s.2.2.2.1 + s.2.2.2.2.2 + s.2.2.2.2.2 + k by omega) ⟨⟨?_, ?_, i3, i4⟩, ⟨?_, i6⟩, ?_, ?_, i9⟩ hF1.hp (hx.kW hF1) hL1 (hR.kW hF1 (by simp only [s1]; omega)) (hF.kW hF1 (by simp only [s1]; omega)) (fun σ' g1 g2 g3 g4 g5 => hc σ' (F2.tr0 g1 (fun _ _ h => h)) g2 g3 g4 g5)
          · show 0 < s.2.2.2.1 + s.2.2.2.2.2; omega
          · show s.2.2.2.1 + s.2.2.2.2.2 ≤ bd; omega
          · show s.2.2.1 + s.2.2.2.2.1 ≤ s.2.2.2.1 + s.2.2.2.2.2; omega
          · show s.2.2.2.2.1 * (s.2.2.2.1 + s.2.2.2.2.2) = (s.2.2.1 + s.2.2.2.2.1) * s.2.2.2.2.2 + 1
            rw [Nat.add_mul, Nat.mul_add]; omega
          · show s.1 - s.2.1 ≤ d; omega
      · have e : sbl bd (k + 1) s = s := by rw [sbl, if_neg c, if_pos (Classical.not_not.mp c2)]
        rw [e] at hc
        exact hc σ (cW.rf hP) hI hL hR hF
theorem cx_addSmall {x a b : Nat} {q : Qv} {σ : St} (hq : qok q) (hp : HP (PX x) σ) (hx : XS σ x) (hF : FX σ (x + 60) (if flo q = 0 then 0 else q.1) (flo q) 1) (ha : a ≤ b) (hb : 0 < b ∧ b ≤ 1000) (hg : Nat.gcd a b = 1) : Hx (fX5_addSmall σ (x + 18) (nI a) (nI b)) (fun σ' _ => cW x (sUn x) 0 0 σ σ' ∧ FX σ' (x + 60) (sbA q a b).1 (sbA q a b).2.1 (sbA q a b).2.2) := by
  have hf30 := (flo_b hq).2.2.2.2.1
  have hsg := hq.sg
  have h14 : sml 1 4 := lt_bp (sml_lit (show 1 < 1000000000 by omega)) (by omega)
  have hf4 : sml (flo q) 4 := Nat.lt_trans hf30 dig30_bp
  obtain ⟨n5, hn5⟩ := hp.2 (x + 50 + 1) (by simp)
  obtain ⟨d5, hd5⟩ := hp.2 (x + 50 + 3) (by simp)
  have fs5 := hx.fs 50 (by omega)
  rw [n_fX5_addSmall, show gF σ 9 14 (x + 18) = some (x + 50) from hx.gf 9 14 18 50 (by decide) (by decide)]
  refine hx_bs ?_
  rw [show gF σ 9 16 (x + 18) = some (x + 60) from hx.gf 9 16 18 60 (by decide) (by decide)]
  refine hx_bs ?_
  rw [show ckK σ 6 (x + 50) = some () from hx.ck 50 6 (by decide)]
  refine hx_bs ?_
  refine Hx.bd (cf_setTo hp ⟨fs5, ⟨fs5.1, (iz_of _).symm⟩, hn5, hd5⟩ hF (by omega) (Or.inl (show x + 50 + 1 ∈ PX x by simp)) (Or.inl (show x + 50 + 3 ∈ PX x by simp)) (lt_bp hf4 (by omega)) (lt_bp h14 (by omega))) (fun σ1 _ g => ?_)
  obtain ⟨hF1, hA1⟩ := g
  have hx1 := hx.kW hF1
  have G1 : cW x (sUn x) 0 0 σ σ1 := hF1.mo (fun r _ hr => by simp only [s3] at hr; unfold sUn; omega) (Nat.le_refl _) (Nat.le_refl _)
  rw [show gF σ1 9 15 (x + 18) = some (x + 55) from hx1.gf 9 15 18 55 (by decide) (by decide)]
  refine hx_bs ?_
  rw [show gF σ1 5 1 (x + 55) = some (x + 56) from hx1.gf 5 1 55 56 (by decide) (by decide)]
  refine hx_bs ?_
  rw [show ckK σ1 8 (x + 56) = some () from hx1.ck 56 8 (by decide)]
  refine hx_bs ?_
  rw [jm_of (by omega)]
  obtain ⟨n6, hn6⟩ := hF1.hp.2 (x + 56) (by simp)
  refine Hx.bd (cw_setSmall hF1.hp hn6 (by omega)) (fun σ2 _ g => ?_)
  obtain ⟨hF2, hN2⟩ := g
  have hx2 := hx1.kW hF2
  have hA2 := hA1.kW hF2 (by simp only [s1]; omega)
  have G2 := G1.tr0 hF2 (fun r _ hr => by simp only [s1] at hr; unfold sUn; omega)
  rw [show gF σ2 9 15 (x + 18) = some (x + 55) from hx2.gf 9 15 18 55 (by decide) (by decide)]
  refine hx_bs ?_
  rw [show gF σ2 5 2 (x + 55) = some (x + 58) from hx2.gf 5 2 55 58 (by decide) (by decide)]
  refine hx_bs ?_
  rw [show ckK σ2 8 (x + 58) = some () from hx2.ck 58 8 (by decide)]
  refine hx_bs ?_
  rw [jm_of (by omega)]
  obtain ⟨n7, hn7⟩ := hF2.hp.2 (x + 58) (by simp)
  refine Hx.bd (cw_setSmall hF2.hp hn7 (by omega)) (fun σ3 _ g => ?_)
  obtain ⟨hF3, hD3⟩ := g
  have hx3 := hx2.kW hF3
  have hA3 := hA2.kW hF3 (by simp only [s1]; omega)
  have hN3 := hN2.kW hF3 (by simp only [s1]; omega)
  have G3 := G2.tr0 hF3 (fun r _ hr => by simp only [s1] at hr; unfold sUn; omega)
  rw [show gF σ3 9 15 (x + 18) = some (x + 55) from hx3.gf 9 15 18 55 (by decide) (by decide)]
  refine hx_bs ?_
  rw [show ckK σ3 6 (x + 55) = some () from hx3.ck 55 6 (by decide)]
  refine hx_bs ?_
  rw [show nI 1 = iz (1 : Int) from rfl]
  refine Hx.bd (cf_setSign hF3.hp (hx3.fs 55 (by omega)) (show Nt σ3 (x + 55 + 1) a from hN3)) (fun σ4 _ g => ?_)
  obtain ⟨hF4, hS4⟩ := g
  have hx4 := hx3.kW hF4
  have hA4 := hA3.kW hF4 (by simp only [s1]; omega)
  have hB4 : FX σ4 (x + 55) (if a = 0 then 0 else 1) a b := ⟨hx4.fs 55 (by omega), hS4, hN3.kW hF4 (by simp only [s1]; omega), hD3.kW hF4 (by simp only [s1]; omega)⟩
  have G4 := G3.tr0 hF4 (fun r _ hr => by simp only [s1] at hr; unfold sUn; omega)
  rw [show gF σ4 9 14 (x + 18) = some (x + 50) from hx4.gf 9 14 18 50 (by decide) (by decide)]
  refine hx_bs ?_
  rw [show gF σ4 9 15 (x + 18) = some (x + 55) from hx4.gf 9 15 18 55 (by decide) (by decide)]
  refine hx_bs ?_
  rw [show gF σ4 9 16 (x + 18) = some (x + 60) from hx4.gf 9 16 18 60 (by decide) (by decide)]
  refine hx_bs ?_
  rw [hx4.ck 18 10 (by decide)]
  refine hx_bs ?_
  have ha9 : sml a 200 := lt_bp (sml_lit (show a < 1000000000 by omega)) (by omega)
  have hb9 : sml b 200 := lt_bp (sml_lit (show b < 1000000000 by omega)) (by omega)
  refine Hx.bd (cr_add (lf := 0) (u := if a = 0 then 0 else 1) hF4.hp hx4 hA4 hB4 (hx4.fs 60 (by omega)) (by simp) (by simp) (by omega) (by omega) (by omega) (by omega) (by omega) (lt_bp hf4 (by omega)) (lt_bp h14 (by omega)) ha9 hb9 (by split <;> omega) (by split <;> omega) (by omega) hb.1 (Nat.gcd_one_right _) hg (by omega) (by rw [if_pos rfl])) (fun σ5 _ g => ?_)
  obtain ⟨hF5, q', hq', hX5⟩ := g
  rw [Nat.mul_one, Nat.one_mul] at hq'
  have e : q' = sbA q a b := hq'
  rw [← e]
  exact Hx.ret ⟨G4.tr0 hF5 (fun r _ hr => by simp only [sR] at hr; unfold sUn; omega), hX5⟩
theorem cl_135 {x bd : Nat} {q : Qv} {s : Sb} {σ : St} (hbd : bd ≤ 1000) (hq : qok q) (hI : SbI bd q.2.2 s) (hP : HP (PX x) σ) (hx : XS σ x) (hL : Nt σ (x + 37) s.1) (hR : Nt σ (x + 39) s.2.1) (hF : FX σ (x + 60) (if flo q = 0 then 0 else q.1) (flo q) 1) :
    Hx (fX5_bestWithin_135 σ (x + 18) (nI s.2.2.1) (nI s.2.2.2.1) (nI s.2.2.2.2.1) (nI s.2.2.2.2.2)) (fun σ' v => cW x (sUn x) 0 0 σ σ' ∧ v = iz (if s.1 = 0 then 0 else @ite _ (sbLow s) (Classical.propDecidable _) (-1) 1) ∧ FX σ' (x + 60) (sbA q (sbN s).1 (sbN s).2).1 (sbA q (sbN s).1 (sbN s).2).2.1 (sbA q (sbN s).1 (sbN s).2).2.2) := by
  obtain ⟨⟨i1, i2, i3, i4⟩, ⟨i5, i6⟩, i7, i8, i9⟩ := id hI
  have hg := hI.gcd
  have hd30 := hq.2.2.2.2.2
  have hl4 : sml s.1 4 := Nat.lt_trans (show s.1 < dig30 by omega) dig30_bp
  have hr4 : sml s.2.1 4 := Nat.lt_trans (show s.2.1 < dig30 by omega) dig30_bp
  rw [n_fX5_bestWithin_135, show gF σ 9 9 (x + 18) = some (x + 37) from hx.gf 9 9 18 37 (by decide) (by decide)]
  refine hx_bs ?_
  rw [show ckK σ 8 (x + 37) = some () from hx.ck 37 8 (by decide)]
  refine hx_bs ?_
  rw [cn_isZero hL]
  refine hx_cs ?_
  rw [show gF σ 9 9 (x + 18) = some (x + 37) from hx.gf 9 9 18 37 (by decide) (by decide)]
  refine hx_bs ?_
  rw [show ckK σ 8 (x + 37) = some () from hx.ck 37 8 (by decide)]
  refine hx_bs ?_
  refine Hx.bd (cw_raise (d := 0) hP hL i3 (by omega) (by omega) (lt_bp hl4 (by omega)) (Or.inl (show x + 37 ∈ PX x by simp))) (fun σ1 _ g => ?_)
  obtain ⟨hF1, hL1⟩ := g
  rw [Nat.add_zero] at hL1
  have hx1 := hx.kW hF1
  have G1 : cW x (sUn x) 0 0 σ σ1 := hF1.mo (fun r _ hr => by simp only [s1] at hr; unfold sUn; omega) (Nat.le_refl _) (Nat.le_refl _)
  have hX1 : FX σ1 (x + 60) (if flo q = 0 then 0 else q.1) (flo q) 1 := hF.kW hF1 (by simp only [s1]; omega)
  rw [show gF σ1 9 10 (x + 18) = some (x + 39) from hx1.gf 9 10 18 39 (by decide) (by decide)]
  refine hx_bs ?_
  rw [show ckK σ1 8 (x + 39) = some () from hx1.ck 39 8 (by decide)]
  refine hx_bs ?_
  refine Hx.bd (cw_raise (d := 0) hF1.hp (hR.kW hF1 (by simp only [s1]; omega)) i1 (by omega) (by omega) (lt_bp hr4 (by omega)) (Or.inl (show x + 39 ∈ PX x by simp))) (fun σ2 _ g => ?_)
  obtain ⟨hF2, hR2⟩ := g
  rw [Nat.add_zero] at hR2
  have hx2 := hx1.kW hF2
  have hL2 := hL1.kW hF2 (by simp only [s1]; omega)
  have G2 := G1.tr0 hF2 (fun r _ hr => by simp only [s1] at hr; unfold sUn; omega)
  have hX2 := hX1.kW hF2 (by simp only [s1]; omega)
  rw [show gF σ2 9 9 (x + 18) = some (x + 37) from hx2.gf 9 9 18 37 (by decide) (by decide)]
  refine hx_bs ?_
  rw [show gF σ2 9 10 (x + 18) = some (x + 39) from hx2.gf 9 10 18 39 (by decide) (by decide)]
  refine hx_bs ?_
  rw [show ckK σ2 8 (x + 37) = some () from hx2.ck 37 8 (by decide)]
  refine hx_bs ?_
  rw [cn_against hL2 hR2]
  have hcb := cmp3_b (s.1 * s.2.2.2.2.2) (s.2.1 * s.2.2.2.1)
  have ck := hx2.ck 18 10 (by decide)
  have hlow : sbLow s → Hx (fX5_bestWithin_194 σ2 (x + 18) (nI s.2.2.1) (nI s.2.2.2.1) (nI s.2.2.2.2.1) (nI s.2.2.2.2.2) (nI (if s.1 = 0 then 1 else 0))) (fun σ' v => cW x (sUn x) 0 0 σ σ' ∧ v = iz (if s.1 = 0 then 0 else @ite _ (sbLow s) (Classical.propDecidable _) (-1) 1) ∧ FX σ' (x + 60) (sbA q (sbN s).1 (sbN s).2).1 (sbA q (sbN s).1 (sbN s).2).2.1 (sbA q (sbN s).1 (sbN s).2).2.2) := by
    intro hlo
    have eN : sbN s = (s.2.2.1, s.2.2.2.1) := by unfold sbN; exact if_pos hlo
    rw [eN, n_fX5_bestWithin_194, n_fX5_bestWithin_199, if_neg (by decide), n_fX5_bestWithin_213, if_neg (by decide), n_fX5_bestWithin_225, ck]
    refine hx_bs ?_
    refine Hx.bd (cx_addSmall hq hF2.hp hx2 hX2 i5 ⟨i1, by omega⟩ hg.1) (fun σ3 _ g => ?_)
    obtain ⟨hF3, hX3⟩ := g
    have G3 := G2.tr0 hF3 (fun _ _ h => h)
    refine Hx.ce nb0 (fun c => ?_) (fun c => ?_)
    · rw [if_neg (by decide), if_neg c, if_pos hlo]
      exact Hx.ret ⟨G3, rfl, hX3⟩
    · rw [if_pos (Classical.not_not.mp c)]
      exact Hx.ret ⟨G3, rfl, hX3⟩
  have hhigh : ¬ sbLow s → Hx (fX5_bestWithin_198 σ2 (x + 18) (nI s.2.2.1) (nI s.2.2.2.1) (nI s.2.2.2.2.1) (nI s.2.2.2.2.2) (nI (if s.1 = 0 then 1 else 0))) (fun σ' v => cW x (sUn x) 0 0 σ σ' ∧ v = iz (if s.1 = 0 then 0 else @ite _ (sbLow s) (Classical.propDecidable _) (-1) 1) ∧ FX σ' (x + 60) (sbA q (sbN s).1 (sbN s).2).1 (sbA q (sbN s).1 (sbN s).2).2.1 (sbA q (sbN s).1 (sbN s).2).2.2) := by
    intro hlo
    have eN : sbN s = (s.2.2.2.2.1, s.2.2.2.2.2) := by unfold sbN; exact if_neg hlo
    rw [eN, n_fX5_bestWithin_198, n_fX5_bestWithin_199, if_pos rfl, n_fX5_bestWithin_213, if_pos rfl, n_fX5_bestWithin_225, ck]
    refine hx_bs ?_
    refine Hx.bd (cx_addSmall hq hF2.hp hx2 hX2 i6 ⟨i3, by omega⟩ hg.2) (fun σ3 _ g => ?_)
    obtain ⟨hF3, hX3⟩ := g
    have G3 := G2.tr0 hF3 (fun _ _ h => h)
    refine Hx.ce nb0 (fun c => ?_) (fun c => ?_)
    · rw [if_pos rfl, if_neg c, if_neg hlo]
      exact Hx.ret ⟨G3, rfl, hX3⟩
    · rw [if_pos (Classical.not_not.mp c)]
      exact Hx.ret ⟨G3, rfl, hX3⟩
  refine hx_cs (Hx.ce (show (iz (cmp3 (s.1 * s.2.2.2.2.2) (s.2.1 * s.2.2.2.1)) < nI 0) = (cmp3 (s.1 * s.2.2.2.2.2) (s.2.1 * s.2.2.2.1) < 0) by rw [show nI 0 = iz 0 from rfl, iz_lt (by omega) (by omega) (by omega) (by omega)]) (fun c => ?_) (fun c => ?_))
  · rw [cmp3_lt] at c
    exact hlow (Or.inl c)
  · rw [cmp3_lt] at c
    refine Hx.ce cmp3_0 (fun c2 => ?_) (fun c2 => ?_)
    · refine Hx.ce (sm_lt (by omega) (by omega)) (fun c3 => hhigh ?_) (fun c3 => hlow (Or.inr ⟨c2, by omega⟩))
      rintro (z | z)
      · exact c z
      · omega
    · refine hhigh ?_
      rintro (z | z)
      · exact c z
      · exact c2 z.1
theorem cx_bestWithin {x a bd : Nat} {q : Qv} {σ : St} (hbd : 1 ≤ bd ∧ bd ≤ 1000) (hp : HP (PX x) σ) (hx : XS σ x) (hA : FX σ a q.1 q.2.1 q.2.2) (ha : x + 84 < a ∨ a = x + 3) (hq : qok q) : Hx (fX5_bestWithin σ (x + 18) a (nI bd)) (fun σ' v => cW x (sUn x) 0 0 σ σ' ∧ v = iz (sbC q bd) ∧ FX σ' (x + 60) (sbQ q bd).1 (sbQ q bd).2.1 (sbQ q bd).2.2) := by
  have hd4 : sml q.2.2 4 := Nat.lt_trans hq.2.2.2.2.2 dig30_bp
  have hfb := flo_b hq
  rw [n_fX5_bestWithin, show gF σ 9 16 (x + 18) = some (x + 60) from hx.gf 9 16 18 60 (by decide) (by decide)]
  refine hx_bs ?_
  rw [hx.ck 18 10 (by decide)]
  refine hx_bs ?_
  refine Hx.bd (cr_round hp hx hA (hx.fs 60 (by omega)) (by simp) (by simp) (by omega) (by omega) (by omega) (Or.inl rfl) hq) (fun σ1 _ g => ?_)
  obtain ⟨hF1, hX1, _⟩ := g
  have hx1 := hx.kW hF1
  have hA1 : FX σ1 a q.1 q.2.1 q.2.2 := hA.kW hF1 (by simp only [sR]; omega)
  have G1 : cW x (sUn x) 0 0 σ σ1 := hF1.mo (fun r _ hr => by simp only [sR] at hr; unfold sUn; omega) (Nat.le_refl _) (Nat.le_refl _)
  rw [hx1.ck 18 10 (by decide)]
  refine hx_bs ?_
  refine Hx.bd (cx_setAboveFloor hF1.hp hx1 hA1 ha hq) (fun σ2 _ g => ?_)
  obtain ⟨hF2, hL2⟩ := g
  have hx2 := hx1.kW hF2
  have hA2 : FX σ2 a q.1 q.2.1 q.2.2 := hA1.kW hF2 (by simp only [s3]; omega)
  have hX2 := hX1.kW hF2 (by simp only [s3]; omega)
  have G2 := G1.tr0 hF2 (fun r _ hr => by simp only [s3] at hr; unfold sUn; omega)
  obtain ⟨fsA, _, _, hD⟩ := hA2
  rw [show gF σ2 9 10 (x + 18) = some (x + 39) from hx2.gf 9 10 18 39 (by decide) (by decide)]
  refine hx_bs ?_
  rw [(sm_gF (ci := 5) fsA.1).trans (congrArg some fsA.2.1.2)]
  refine hx_bs ?_
  rw [show ckK σ2 8 (x + 39) = some () from hx2.ck 39 8 (by decide)]
  refine hx_bs ?_
  obtain ⟨z9, hZ9⟩ := hF2.hp.2 (x + 39) (by simp)
  refine Hx.bd (cw_setTo hF2.hp hZ9 hD (Or.inl (by simp)) (lt_bp hd4 (by omega))) (fun σ3 _ g => ?_)
  obtain ⟨hF3, hU3⟩ := g
  have hx3 := hx2.kW hF3
  have hL3 := hL2.kW hF3 (by simp only [s1]; omega)
  have hX3 := hX2.kW hF3 (by simp only [s1]; omega)
  have G3 := G2.tr0 hF3 (fun r _ hr => by simp only [s1] at hr; unfold sUn; omega)
  rw [show gF σ3 9 10 (x + 18) = some (x + 39) from hx3.gf 9 10 18 39 (by decide) (by decide)]
  refine hx_bs ?_
  rw [show gF σ3 9 9 (x + 18) = some (x + 37) from hx3.gf 9 9 18 37 (by decide) (by decide)]
  refine hx_bs ?_
  rw [show ckK σ3 8 (x + 39) = some () from hx3.ck 39 8 (by decide)]
  refine hx_bs ?_
  refine Hx.bd (cw_minus hF3.hp hU3 hL3 (by omega) (by omega)) (fun σ4 _ g => ?_)
  obtain ⟨hF4, hU4⟩ := g
  have hx4 := hx3.kW hF4
  have hL4 := hL3.kW hF4 (by simp only [s1]; omega)
  have hX4 := hX3.kW hF4 (by simp only [s1]; omega)
  have G4 := G3.tr0 hF4 (fun r _ hr => by simp only [s1] at hr; unfold sUn; omega)
  refine cl_sb (d := q.2.2) hbd.2 hq.2.2.2.2.2 1000 FU (sb0 q) σ4 (by unfold FU; omega) (show bd < 1 + 1 + 1000 by omega) ⟨⟨Nat.one_pos, hbd.1, Nat.one_pos, hbd.1⟩, ⟨Nat.zero_le _, Nat.le_refl _⟩, rfl, (show abv q ≤ q.2.2 by omega), Nat.sub_le _ _⟩ hF4.hp hx4 hL4 hU4 hX4 (fun σ5 g1 g2 g3 g4 g5 => ?_)
  have G5 := G4.tr0 g1 (fun r _ hr => by simp only [s2] at hr; unfold sUn; omega)
  refine (cl_135 (bd := bd) hbd.2 hq g2 g1.hp (hx4.kW g1) g3 g4 g5).mo (fun σ6 v g => ?_)
  exact ⟨G5.tr0 g.1 (fun _ _ h => h), g.2.1, g.2.2⟩
theorem sbC_b (q : Qv) (bd : Nat) : -1 ≤ sbC q bd ∧ sbC q bd ≤ 1 := by
  unfold sbC
  split
  · omega
  · split <;> omega
theorem ki_takeBest {σ : St} {x o : Nat} {s : Kst} {z : Int} (hz : -2147483648 ≤ z ∧ z < 2147483648) (h : KI σ x o s) (hok : 1 ≤ z ∧ z ≤ 1000 → qok (sbQ s.2.2.2.1 z.toNat)) : Hx (fX11_takeBest σ x (iz z)) (KO x 15 5 (if 1 ≤ z ∧ z ≤ 1000 then ansK s (sbQ s.2.2.2.1 z.toNat) else s) (if 1 ≤ z ∧ z ≤ 1000 then none else some "java/lang/IllegalArgumentException") (sbC s.2.2.2.1 z.toNat) σ) := by
  obtain ⟨hp, hx, _, _, hQ⟩ := id h.1
  have hA := h.2.2.1.1
  have bad : ¬ (1 ≤ z ∧ z ≤ 1000) → Hx (fX11_takeBest_12 σ) (KO x 15 5 (if 1 ≤ z ∧ z ≤ 1000 then ansK s (sbQ s.2.2.2.1 z.toNat) else s) (if 1 ≤ z ∧ z ≤ 1000 then none else some "java/lang/IllegalArgumentException") (sbC s.2.2.2.1 z.toNat) σ) := by
    intro hn
    rw [if_neg hn, if_neg hn, n_fX11_takeBest_12]
    exact Hx.ret ⟨rfl, σ, rfl, ⟨o, h⟩, (cO.rf hp).mo (by omega) (by omega)⟩
  rw [n_fX11_takeBest]
  refine Hx.ce (show (iz z < nI 1) = (z < 1) by rw [show nI 1 = iz 1 from rfl, iz_lt (by omega) (by omega) (by omega) (by omega)]) (fun c => bad (by omega)) (fun c => ?_)
  refine Hx.ce (show (iz z ≤ nI 1000) = (z ≤ 1000) by rw [show nI 1000 = iz 1000 from rfl, iz_le (by omega) (by omega) (by omega) (by omega)]) (fun c2 => ?_) (fun c2 => bad (by omega))
  have hn : 1 ≤ z ∧ z ≤ 1000 := by omega
  rw [if_pos hn, if_pos hn]
  have hok := hok hn
  obtain ⟨bd, rfl⟩ := Int.eq_ofNat_of_zero_le (show 0 ≤ z by omega)
  rw [show gF σ 15 16 x = some (x + 18) from hx.gf 15 16 0 18 (by decide) (by decide)]
  refine hx_bs ?_
  rw [sm_gF (show sK σ x = 15 + 1 from hx.k0)]
  refine hx_bs ?_
  rw [hx.ck 18 10 (by decide)]
  refine hx_bs ?_
  rw [← sm_iz]
  refine Hx.bd (cx_bestWithin (by omega) hp hx hA.2.2.2 hA.1 hA.2.2.1) (fun σ1 v g => ?_)
  obtain ⟨hF1, rfl, hX1⟩ := g
  obtain ⟨hK, hO⟩ := h.lowr hF1 (fun r hr => hr)
  have hx1 := hx.kW hF1
  have hxn := nw_gf hK.1.1 hx1
  refine hx_nm (hx_nm ?_)
  rw [show gF (nw 6 0 3 σ1) 15 16 x = some (x + 18) from hxn.gf 15 16 0 18 (by decide) (by decide)]
  refine hx_bs ?_
  rw [show gF (nw 6 0 3 σ1) 9 16 (x + 18) = some (x + 60) from hxn.gf 9 16 18 60 (by decide) (by decide)]
  refine hx_bs ?_
  rw [sm_ckK (show sK (nw 6 0 3 σ1) (sz σ1) = 6 from if_pos rfl)]
  refine hx_bs ?_
  refine ki_new hK hok hX1 (fun σ2 hK2 hO2 => ?_)
  exact Hx.ret ⟨rfl, ⟨o, hK2⟩, (hO.tr hO2).mo (by omega) (by omega)⟩
