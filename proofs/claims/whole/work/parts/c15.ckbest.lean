/-! ===== calls of the one that was built: the best approximation ===== -/
/-- how far low and high are off, low, high -/
abbrev Sb := Nat × Nat × Nat × Nat × Nat × Nat
def sbl (bd : Nat) : Nat → Sb → Sb
  | 0, s => s
  | k + 1, s => if bd < s.2.2.2.1 + s.2.2.2.2.2 then s else if s.1 = 0 then s else
    if s.1 < s.2.1 then sbl bd k (s.1, s.2.1 - s.1, s.2.2.1, s.2.2.2.1, s.2.2.2.2.1 + s.2.2.1, s.2.2.2.2.2 + s.2.2.2.1)
    else sbl bd k (s.1 - s.2.1, s.2.1, s.2.2.1 + s.2.2.2.2.1, s.2.2.2.1 + s.2.2.2.2.2, s.2.2.2.2.1, s.2.2.2.2.2)
def SbI (bd d : Nat) (s : Sb) : Prop := (0 < s.2.2.2.1 ∧ s.2.2.2.1 ≤ bd ∧ 0 < s.2.2.2.2.2 ∧ s.2.2.2.2.2 ≤ bd) ∧ (s.2.2.1 ≤ s.2.2.2.1 ∧ s.2.2.2.2.1 ≤ s.2.2.2.2.2) ∧ s.2.2.2.2.1 * s.2.2.2.1 = s.2.2.1 * s.2.2.2.2.2 + 1 ∧ s.1 ≤ d ∧ s.2.1 ≤ d
def sb0 (q : Qv) : Sb := (abv q, q.2.2 - abv q, 0, 1, 1, 1)
def sbS (q : Qv) (bd : Nat) : Sb := sbl bd 1000 (sb0 q)
def sbLow (s : Sb) : Prop := s.1 * s.2.2.2.2.2 < s.2.1 * s.2.2.2.1 ∨ (s.1 * s.2.2.2.2.2 = s.2.1 * s.2.2.2.1 ∧ s.2.2.2.1 ≤ s.2.2.2.2.2)
/-- a fraction from 0 to 1 is added to a whole number -/
def sbA (q : Qv) (a b : Nat) : Qv := qmk (jnS (if flo q = 0 then 0 else q.1) (if a = 0 then 0 else 1) (flo q * b) a) (jnN (if flo q = 0 then 0 else q.1) (if a = 0 then 0 else 1) (flo q * b) a) b
noncomputable def sbN (s : Sb) : Nat × Nat := @ite _ (sbLow s) (Classical.propDecidable _) (s.2.2.1, s.2.2.2.1) (s.2.2.2.2.1, s.2.2.2.2.2)
noncomputable def sbQ (q : Qv) (bd : Nat) : Qv := sbA q (sbN (sbS q bd)).1 (sbN (sbS q bd)).2
noncomputable def sbC (q : Qv) (bd : Nat) : Int := if (sbS q bd).1 = 0 then 0 else @ite _ (sbLow (sbS q bd)) (Classical.propDecidable _) (-1) 1
theorem SbI.gcd {bd d : Nat} {s : Sb} (h : SbI bd d s) : Nat.gcd s.2.2.1 s.2.2.2.1 = 1 ∧ Nat.gcd s.2.2.2.2.1 s.2.2.2.2.2 = 1 := by
  have h3 := h.2.2.1
  constructor
  · have h1 := Nat.dvd_trans (Nat.gcd_dvd_right s.2.2.1 s.2.2.2.1) (Nat.dvd_mul_left s.2.2.2.1 s.2.2.2.2.1)
    rw [h3] at h1
    have h2 := Nat.dvd_trans (Nat.gcd_dvd_left s.2.2.1 s.2.2.2.1) (Nat.dvd_mul_right s.2.2.1 s.2.2.2.2.2)
    exact Nat.dvd_one.mp ((Nat.dvd_add_right h2).mp h1)
  · have h1 := Nat.dvd_trans (Nat.gcd_dvd_left s.2.2.2.2.1 s.2.2.2.2.2) (Nat.dvd_mul_right s.2.2.2.2.1 s.2.2.2.1)
    rw [h3] at h1
    have h2 := Nat.dvd_trans (Nat.gcd_dvd_right s.2.2.2.2.1 s.2.2.2.2.2) (Nat.dvd_mul_left s.2.2.2.2.2 s.2.2.1)
    exact Nat.dvd_one.mp ((Nat.dvd_add_right h2).mp h1)
theorem cl_sb {x bd d n0 d0 : Nat} {s0 : Int} {P : St → Int32 → Prop} (hbd : bd ≤ 1000) (hd : d < dig30) : ∀ (k n : Nat) (s : Sb) (σ : St), k < n → bd < s.2.2.2.1 + s.2.2.2.2.2 + k → SbI bd d s → HP (PX x) σ → XS σ x → Nt σ (x + 37) s.1 → Nt σ (x + 39) s.2.1 → FX σ (x + 60) s0 n0 d0 →
    (∀ σ', cW x (s2 (x + 37) (x + 39)) 0 0 σ σ' → SbI bd d (sbl bd k s) → Nt σ' (x + 37) (sbl bd k s).1 → Nt σ' (x + 39) (sbl bd k s).2.1 → FX σ' (x + 60) s0 n0 d0 → Hx (fX5_bestWithin_135 σ' (x + 18) (nI (sbl bd k s).2.2.1) (nI (sbl bd k s).2.2.2.1) (nI (sbl bd k s).2.2.2.2.1) (nI (sbl bd k s).2.2.2.2.2)) P) →
    Hx (fX5_bestWithin_49 n σ (x + 18) (nI bd) (nI s.2.2.1) (nI s.2.2.2.1) (nI s.2.2.2.2.1) (nI s.2.2.2.2.2)) P := by
  intro k
  induction k with
  | zero =>
    intro n s σ hn hk hI hP hx hL hR hF hc
    obtain ⟨n, rfl⟩ : ∃ j, n = j + 1 := ⟨n - 1, by omega⟩
    obtain ⟨⟨i1, i2, i3, i4⟩, _⟩ := id hI
    rw [n_fX5_bestWithin_49, sm_add]
    refine Hx.ce (sm_lt (by omega) (by omega)) (fun _ => hc σ (cW.rf hP) hI hL hR hF) (fun c => absurd c (by omega))
  | succ k ih =>
    intro n s σ hn hk hI hP hx hL hR hF hc
    obtain ⟨n, rfl⟩ : ∃ j, n = j + 1 := ⟨n - 1, by omega⟩
    obtain ⟨⟨i1, i2, i3, i4⟩, ⟨i5, i6⟩, i7, i8, i9⟩ := id hI
    rw [n_fX5_bestWithin_49, sm_add]
    refine Hx.ce (sm_lt (by omega) (by omega)) (fun c => ?_) (fun c => ?_)
    · have e : sbl bd (k + 1) s = s := if_pos c
      rw [e] at hc
      exact hc σ (cW.rf hP) hI hL hR hF
    · rw [show gF σ 9 9 (x + 18) = some (x + 37) from hx.gf 9 9 18 37 (by decide) (by decide)]
      refine hx_bs ?_
      rw [show ckK σ 8 (x + 37) = some () from hx.ck 37 8 (by decide)]
      refine hx_bs ?_
      rw [cn_isZero hL]
      refine hx_cs (Hx.ce nb0 (fun c2 => ?_) (fun c2 => ?_))
      · rw [show gF σ 9 9 (x + 18) = some (x + 37) from hx.gf 9 9 18 37 (by decide) (by decide)]
        refine hx_bs ?_
        rw [show gF σ 9 10 (x + 18) = some (x + 39) from hx.gf 9 10 18 39 (by decide) (by decide)]
        refine hx_bs ?_
        rw [show ckK σ 8 (x + 37) = some () from hx.ck 37 8 (by decide)]
        refine hx_bs ?_
        rw [cn_against hL hR]
        have hcb := cmp3_b s.1 s.2.1
        refine hx_cs (Hx.ce (show (iz (cmp3 s.1 s.2.1) < nI 0) = (cmp3 s.1 s.2.1 < 0) by rw [show nI 0 = iz 0 from rfl, iz_lt (by omega) (by omega) (by omega) (by omega)]) (fun c3 => ?_) (fun c3 => ?_))
        · rw [cmp3_lt] at c3
          have e : sbl bd (k + 1) s = sbl bd k (s.1, s.2.1 - s.1, s.2.2.1, s.2.2.2.1, s.2.2.2.2.1 + s.2.2.1, s.2.2.2.2.2 + s.2.2.2.1) := by
            rw [sbl, if_neg c, if_neg c2, if_pos c3]
          rw [e] at hc
          rw [show gF σ 9 10 (x + 18) = some (x + 39) from hx.gf 9 10 18 39 (by decide) (by decide)]
          refine hx_bs ?_
          rw [show gF σ 9 9 (x + 18) = some (x + 37) from hx.gf 9 9 18 37 (by decide) (by decide)]
          refine hx_bs ?_
          rw [show ckK σ 8 (x + 39) = some () from hx.ck 39 8 (by decide)]
          refine hx_bs ?_
          refine Hx.bd (cw_minus hP hR hL (by omega) (by omega)) (fun σ1 _ g => ?_)
          obtain ⟨hF1, hR1⟩ := g
          refine hx_nm (hx_nm ?_)
          rw [sm_add, sm_add]
          have F2 : cW x (s2 (x + 37) (x + 39)) 0 0 σ σ1 := hF1.mo (fun r _ hr => Or.inr hr) (Nat.le_refl _) (Nat.le_refl _)
          refine ih n (s.1, s.2.1 - s.1, s.2.2.1, s.2.2.2.1, s.2.2.2.2.1 + s.2.2.1, s.2.2.2.2.2 + s.2.2.2.1) σ1 (by omega) (show bd < s.2.2.2.1 + (s.2.2.2.2.2 + s.2.2.2.1) + k by omega) ⟨⟨i1, i2, ?_, ?_⟩, ⟨i5, ?_⟩, ?_, i8, ?_⟩ hF1.hp (hx.kW hF1) (hL.kW hF1 (by simp only [s1]; omega)) hR1 (hF.kW hF1 (by simp only [s1]; omega)) (fun σ' g1 g2 g3 g4 g5 => hc σ' (F2.tr0 g1 (fun _ _ h => h)) g2 g3 g4 g5)
          · show 0 < s.2.2.2.2.2 + s.2.2.2.1; omega
          · show s.2.2.2.2.2 + s.2.2.2.1 ≤ bd; omega
          · show s.2.2.2.2.1 + s.2.2.1 ≤ s.2.2.2.2.2 + s.2.2.2.1; omega
          · show (s.2.2.2.2.1 + s.2.2.1) * s.2.2.2.1 = s.2.2.1 * (s.2.2.2.2.2 + s.2.2.2.1) + 1
            rw [Nat.add_mul, Nat.mul_add]; omega
          · show s.2.1 - s.1 ≤ d; omega
        · rw [cmp3_lt] at c3
          have e : sbl bd (k + 1) s = sbl bd k (s.1 - s.2.1, s.2.1, s.2.2.1 + s.2.2.2.2.1, s.2.2.2.1 + s.2.2.2.2.2, s.2.2.2.2.1, s.2.2.2.2.2) := by
            rw [sbl, if_neg c, if_neg c2, if_neg c3]
          rw [e] at hc
          rw [show gF σ 9 9 (x + 18) = some (x + 37) from hx.gf 9 9 18 37 (by decide) (by decide)]
          refine hx_bs ?_
          rw [show gF σ 9 10 (x + 18) = some (x + 39) from hx.gf 9 10 18 39 (by decide) (by decide)]
          refine hx_bs ?_
          rw [show ckK σ 8 (x + 37) = some () from hx.ck 37 8 (by decide)]
          refine hx_bs ?_
          refine Hx.bd (cw_minus hP hL hR (by omega) (by omega)) (fun σ1 _ g => ?_)
          obtain ⟨hF1, hL1⟩ := g
          refine hx_nm (hx_nm ?_)
          rw [sm_add, sm_add]
          have F2 : cW x (s2 (x + 37) (x + 39)) 0 0 σ σ1 := hF1.mo (fun r _ hr => Or.inl hr) (Nat.le_refl _) (Nat.le_refl _)
          refine ih n (s.1 - s.2.1, s.2.1, s.2.2.1 + s.2.2.2.2.1, s.2.2.2.1 + s.2.2.2.2.2, s.2.2.2.2.1, s.2.2.2.2.2) σ1 (by omega) (show bd < s.2.2.2.1 + s.2.2.2.2.2 + s.2.2.2.2.2 + k by omega) ⟨⟨?_, ?_, i3, i4⟩, ⟨?_, i6⟩, ?_, ?_, i9⟩ hF1.hp (hx.kW hF1) hL1 (hR.kW hF1 (by simp only [s1]; omega)) (hF.kW hF1 (by simp only [s1]; omega)) (fun σ' g1 g2 g3 g4 g5 => hc σ' (F2.tr0 g1 (fun _ _ h => h)) g2 g3 g4 g5)
          · show 0 < s.2.2.2.1 + s.2.2.2.2.2; omega
          · show s.2.2.2.1 + s.2.2.2.2.2 ≤ bd; omega
          · show s.2.2.1 + s.2.2.2.2.1 ≤ s.2.2.2.1 + s.2.2.2.2.2; omega
          · show s.2.2.2.2.1 * (s.2.2.2.1 + s.2.2.2.2.2) = (s.2.2.1 + s.2.2.2.2.1) * s.2.2.2.2.2 + 1
            rw [Nat.add_mul, Nat.mul_add]; omega
          · show s.1 - s.2.1 ≤ d; omega
      · have e : sbl bd (k + 1) s = s := by rw [sbl, if_neg c, if_pos (Classical.not_not.mp c2)]
        rw [e] at hc
        exact hc σ (cW.rf hP) hI hL hR hF
theorem cx_addSmall {x a b : Nat} {q : Qv} {σ : St} (hq : qok q) (hp : HP (PX x) σ) (hx : XS σ x) (hF : FX σ (x + 60) (if flo q = 0 then 0 else q.1) (flo q) 1) (ha : a ≤ b) (hb : 0 < b ∧ b ≤ 1000) (hg : Nat.gcd a b = 1) : Hx (fX5_addSmall σ (x + 18) (nI a) (nI b)) (fun σ' _ => cW x (sUn x) 0 0 σ σ' ∧ FX σ' (x + 60) (sbA q a b).1 (sbA q a b).2.1 (sbA q a b).2.2) := by
  have hf30 := (flo_b hq).2.2.2.2.1
  have hsg := hq.sg
  have h14 : sml 1 4 := lt_bp (sml_lit (show 1 < 1000000000 by omega)) (by omega)
  have hf4 : sml (flo q) 4 := Nat.lt_trans hf30 dig30_bp
  obtain ⟨n5, hn5⟩ := hp.2 (x + 50 + 1) (by simp)
  obtain ⟨d5, hd5⟩ := hp.2 (x + 50 + 3) (by simp)
  have fs5 := hx.fs 50 (by omega)
  rw [n_fX5_addSmall, show gF σ 9 14 (x + 18) = some (x + 50) from hx.gf 9 14 18 50 (by decide) (by decide)]
  refine hx_bs ?_
  rw [show gF σ 9 16 (x + 18) = some (x + 60) from hx.gf 9 16 18 60 (by decide) (by decide)]
  refine hx_bs ?_
  rw [show ckK σ 6 (x + 50) = some () from hx.ck 50 6 (by decide)]
  refine hx_bs ?_
  refine Hx.bd (cf_setTo hp ⟨fs5, ⟨fs5.1, (iz_of _).symm⟩, hn5, hd5⟩ hF (by omega) (Or.inl (show x + 50 + 1 ∈ PX x by simp)) (Or.inl (show x + 50 + 3 ∈ PX x by simp)) (lt_bp hf4 (by omega)) (lt_bp h14 (by omega))) (fun σ1 _ g => ?_)
  obtain ⟨hF1, hA1⟩ := g
  have hx1 := hx.kW hF1
  have G1 : cW x (sUn x) 0 0 σ σ1 := hF1.mo (fun r _ hr => by simp only [s3] at hr; unfold sUn; omega) (Nat.le_refl _) (Nat.le_refl _)
  rw [show gF σ1 9 15 (x + 18) = some (x + 55) from hx1.gf 9 15 18 55 (by decide) (by decide)]
  refine hx_bs ?_
  rw [show gF σ1 5 1 (x + 55) = some (x + 56) from hx1.gf 5 1 55 56 (by decide) (by decide)]
  refine hx_bs ?_
  rw [show ckK σ1 8 (x + 56) = some () from hx1.ck 56 8 (by decide)]
  refine hx_bs ?_
  rw [jm_of (by omega)]
  obtain ⟨n6, hn6⟩ := hF1.hp.2 (x + 56) (by simp)
  refine Hx.bd (cw_setSmall hF1.hp hn6 (by omega)) (fun σ2 _ g => ?_)
  obtain ⟨hF2, hN2⟩ := g
  have hx2 := hx1.kW hF2
  have hA2 := hA1.kW hF2 (by simp only [s1]; omega)
  have G2 := G1.tr0 hF2 (fun r _ hr => by simp only [s1] at hr; unfold sUn; omega)
  rw [show gF σ2 9 15 (x + 18) = some (x + 55) from hx2.gf 9 15 18 55 (by decide) (by decide)]
  refine hx_bs ?_
  rw [show gF σ2 5 2 (x + 55) = some (x + 58) from hx2.gf 5 2 55 58 (by decide) (by decide)]
  refine hx_bs ?_
  rw [show ckK σ2 8 (x + 58) = some () from hx2.ck 58 8 (by decide)]
  refine hx_bs ?_
  rw [jm_of (by omega)]
  obtain ⟨n7, hn7⟩ := hF2.hp.2 (x + 58) (by simp)
  refine Hx.bd (cw_setSmall hF2.hp hn7 (by omega)) (fun σ3 _ g => ?_)
  obtain ⟨hF3, hD3⟩ := g
  have hx3 := hx2.kW hF3
  have hA3 := hA2.kW hF3 (by simp only [s1]; omega)
  have hN3 := hN2.kW hF3 (by simp only [s1]; omega)
  have G3 := G2.tr0 hF3 (fun r _ hr => by simp only [s1] at hr; unfold sUn; omega)
  rw [show gF σ3 9 15 (x + 18) = some (x + 55) from hx3.gf 9 15 18 55 (by decide) (by decide)]
  refine hx_bs ?_
  rw [show ckK σ3 6 (x + 55) = some () from hx3.ck 55 6 (by decide)]
  refine hx_bs ?_
  rw [show nI 1 = iz (1 : Int) from rfl]
  refine Hx.bd (cf_setSign hF3.hp (hx3.fs 55 (by omega)) (show Nt σ3 (x + 55 + 1) a from hN3)) (fun σ4 _ g => ?_)
  obtain ⟨hF4, hS4⟩ := g
  have hx4 := hx3.kW hF4
  have hA4 := hA3.kW hF4 (by simp only [s1]; omega)
  have hB4 : FX σ4 (x + 55) (if a = 0 then 0 else 1) a b := ⟨hx4.fs 55 (by omega), hS4, hN3.kW hF4 (by simp only [s1]; omega), hD3.kW hF4 (by simp only [s1]; omega)⟩
  have G4 := G3.tr0 hF4 (fun r _ hr => by simp only [s1] at hr; unfold sUn; omega)
  rw [show gF σ4 9 14 (x + 18) = some (x + 50) from hx4.gf 9 14 18 50 (by decide) (by decide)]
  refine hx_bs ?_
  rw [show gF σ4 9 15 (x + 18) = some (x + 55) from hx4.gf 9 15 18 55 (by decide) (by decide)]
  refine hx_bs ?_
  rw [show gF σ4 9 16 (x + 18) = some (x + 60) from hx4.gf 9 16 18 60 (by decide) (by decide)]
  refine hx_bs ?_
  rw [hx4.ck 18 10 (by decide)]
  refine hx_bs ?_
  have ha9 : sml a 200 := lt_bp (sml_lit (show a < 1000000000 by omega)) (by omega)
  have hb9 : sml b 200 := lt_bp (sml_lit (show b < 1000000000 by omega)) (by omega)
  refine Hx.bd (cr_add (lf := 0) (u := if a = 0 then 0 else 1) hF4.hp hx4 hA4 hB4 (hx4.fs 60 (by omega)) (by simp) (by simp) (by omega) (by omega) (by omega) (by omega) (by omega) (lt_bp hf4 (by omega)) (lt_bp h14 (by omega)) ha9 hb9 (by split <;> omega) (by split <;> omega) (by omega) hb.1 (Nat.gcd_one_right _) hg (by omega) (by rw [if_pos rfl])) (fun σ5 _ g => ?_)
  obtain ⟨hF5, q', hq', hX5⟩ := g
  rw [Nat.mul_one, Nat.one_mul] at hq'
  have e : q' = sbA q a b := hq'
  rw [← e]
  exact Hx.ret ⟨G4.tr0 hF5 (fun r _ hr => by simp only [sR] at hr; unfold sUn; omega), hX5⟩
