/-! ===== calls of the one that was built: the continued form ===== -/
def sLo (x r : Nat) : Prop := (x + 19 ≤ r ∧ r ≤ x + 44) ∨ (x + 60 ≤ r ∧ r ≤ x + 63)
theorem cx_setAboveFloor {x a : Nat} {q : Qv} {σ : St} (hp : HP (PX x) σ) (hx : XS σ x) (hA : FX σ a q.1 q.2.1 q.2.2) (ha : x + 84 < a ∨ a = x + 3) (hq : qok q) : Hx (fX5_setAboveFloor σ (x + 18) a) (fun σ' _ => cW x (fun r => s3 (x + 33) (x + 37) (x + 21) r ∨ r = x + 39) 0 0 σ σ' ∧ Nt σ' (x + 37) (abv q)) := by
  obtain ⟨fsA, sgA, hN, hD⟩ := hA
  have hn4 : sml q.2.1 4 := Nat.lt_trans hq.2.2.2.2.1 dig30_bp
  have hd4 : sml q.2.2 4 := Nat.lt_trans hq.2.2.2.2.2 dig30_bp
  have hd0 : 0 < q.2.2 := hq.2.2.1
  have hsg := hq.sg
  have hav := (flo_b hq).2.2.1
  have hml := Nat.mod_lt q.2.1 hd0
  rw [n_fX5_setAboveFloor, (sm_gF (ci := 5) fsA.1).trans (congrArg some fsA.2.1.1)]
  refine hx_bs ?_
  rw [(sm_gF (ci := 5) fsA.1).trans (congrArg some fsA.2.1.2)]
  refine hx_bs ?_
  rw [show gF σ 9 7 (x + 18) = some (x + 33) from hx.gf 9 7 18 33 (by decide) (by decide)]
  refine hx_bs ?_
  rw [show gF σ 9 9 (x + 18) = some (x + 37) from hx.gf 9 9 18 37 (by decide) (by decide)]
  refine hx_bs ?_
  rw [hx.ck 18 10 (by decide)]
  refine hx_bs ?_
  refine Hx.bd (cw_divide hp hx hN hD (show x + 33 ∈ PX x by simp) (show x + 37 ∈ PX x by simp) (lt_bp hn4 (by omega)) (by omega)) (fun σ1 _ g => ?_)
  obtain ⟨hF1, _, hR1⟩ := g
  have hx1 := hx.kW hF1
  have fs1 := fsA.kW hF1
  have sg1 := sgA.kW hF1 (by simp only [s3]; omega)
  have hD1 := hD.kW hF1 (by simp only [s3]; omega)
  have G1 : cW x (fun r => s3 (x + 33) (x + 37) (x + 21) r ∨ r = x + 39) 0 0 σ σ1 := hF1.mo (fun r _ hr => Or.inl hr) (Nat.le_refl _) (Nat.le_refl _)
  rw [(sm_gI (ci := 5) fs1.1).trans (congrArg some sg1.2)]
  refine hx_bs (Hx.ce (show (nI 0 ≤ iz q.1) = (0 ≤ q.1) by rw [show nI 0 = iz 0 from rfl, iz_le (by omega) (by omega) (by omega) (by omega)]) (fun c => ?_) (fun c => ?_))
  · refine Hx.ret ⟨G1, ?_⟩
    rw [hav, if_neg (fun z => by omega)]
    exact hR1
  · rw [show gF σ1 9 9 (x + 18) = some (x + 37) from hx1.gf 9 9 18 37 (by decide) (by decide)]
    refine hx_bs ?_
    rw [show ckK σ1 8 (x + 37) = some () from hx1.ck 37 8 (by decide)]
    refine hx_bs ?_
    rw [cn_isZero hR1]
    refine hx_cs (Hx.ce nb0 (fun c2 => ?_) (fun c2 => ?_))
    · rw [show gF σ1 9 10 (x + 18) = some (x + 39) from hx1.gf 9 10 18 39 (by decide) (by decide)]
      refine hx_bs ?_
      rw [(sm_gF (ci := 5) fs1.1).trans (congrArg some fs1.2.1.2)]
      refine hx_bs ?_
      rw [show ckK σ1 8 (x + 39) = some () from hx1.ck 39 8 (by decide)]
      refine hx_bs ?_
      obtain ⟨z9, hZ9⟩ := hF1.hp.2 (x + 39) (by simp)
      refine Hx.bd (cw_setTo hF1.hp hZ9 hD1 (Or.inl (by simp)) (lt_bp hd4 (by omega))) (fun σ2 _ g => ?_)
      obtain ⟨hF2, hD2⟩ := g
      have hx2 := hx1.kW hF2
      have hR2 := hR1.kW hF2 (by simp only [s1]; omega)
      rw [show gF σ2 9 10 (x + 18) = some (x + 39) from hx2.gf 9 10 18 39 (by decide) (by decide)]
      refine hx_bs ?_
      rw [show gF σ2 9 9 (x + 18) = some (x + 37) from hx2.gf 9 9 18 37 (by decide) (by decide)]
      refine hx_bs ?_
      rw [show ckK σ2 8 (x + 39) = some () from hx2.ck 39 8 (by decide)]
      refine hx_bs ?_
      refine Hx.bd (cw_minus hF2.hp hD2 hR2 (by omega) (by omega)) (fun σ3 _ g => ?_)
      obtain ⟨hF3, hD3⟩ := g
      have hx3 := hx2.kW hF3
      have hR3 := hR2.kW hF3 (by simp only [s1]; omega)
      rw [show gF σ3 9 9 (x + 18) = some (x + 37) from hx3.gf 9 9 18 37 (by decide) (by decide)]
      refine hx_bs ?_
      rw [show gF σ3 9 10 (x + 18) = some (x + 39) from hx3.gf 9 10 18 39 (by decide) (by decide)]
      refine hx_bs ?_
      rw [show ckK σ3 8 (x + 37) = some () from hx3.ck 37 8 (by decide)]
      refine hx_bs ?_
      refine Hx.bd (cw_setTo hF3.hp hR3 hD3 (Or.inl (by simp)) (lt_bp (Nat.lt_of_le_of_lt (Nat.sub_le _ _) hd4) (by omega))) (fun σ4 _ g => ?_)
      obtain ⟨hF4, hR4⟩ := g
      refine Hx.ret ⟨((G1.tr0 hF2 (fun r _ hr => Or.inr hr)).tr0 hF3 (fun r _ hr => Or.inr hr)).tr0 hF4 (fun r _ hr => Or.inl (Or.inr (Or.inl hr))), ?_⟩
      rw [hav, if_pos ⟨by omega, c2⟩]
      exact hR4
    · refine Hx.ret ⟨G1, ?_⟩
      rw [hav, if_neg (fun z => c2 z.2)]
      exact hR1
theorem cl_cf {x : Nat} {p : Int} (hpb : -2147483648 ≤ p ∧ p < 2147483648) : ∀ (k n i hi lo U L n0 : Nat) (s0 : Int) (σ : St), k < n → lo ≤ hi → hi * lo < 2 ^ k → hi < dig30 → i + k ≤ 1000 → (U = x + 39 ∧ L = x + 37 ∨ U = x + 37 ∧ L = x + 39) → HP (PX x) σ → XS σ x → Nt σ U hi → Nt σ L lo → FX σ (x + 60) s0 n0 1 →
    Hx (fX5_continuedForm_41 n σ (x + 18) (iz p) U L (nI i)) (fun σ' v => v = nI (i + (cfl k hi lo).length) ∧ cW x (sLo x) 0 0 σ σ' ∧ (∀ (j y : Nat), (cfl k hi lo)[j]? = some y → p = (i : Int) + j → FX σ' (x + 60) 1 y 1) ∧ ((∀ j : Nat, j < (cfl k hi lo).length → p ≠ (i : Int) + j) → FX σ' (x + 60) s0 n0 1)) := by
  intro k
  induction k with
  | zero =>
    intro n i hi lo U L n0 s0 σ hn hle hhl hd hik hUL hP hx hU hL hF
    have h0 : hi * lo = 0 := by rw [Nat.pow_zero] at hhl; omega
    have hlo : lo = 0 := by
      rcases Nat.mul_eq_zero.mp h0 with q | q
      · omega
      · exact q
    subst hlo
    obtain ⟨n, rfl⟩ : ∃ j, n = j + 1 := ⟨n - 1, by omega⟩
    have k8 : ckK σ 8 L = some () := by
      rcases hUL with ⟨_, q⟩ | ⟨_, q⟩ <;> subst q
      · exact hx.ck 37 8 (by decide)
      · exact hx.ck 39 8 (by decide)
    rw [n_fX5_continuedForm_41]
    refine Hx.ce (sm_le (by omega) (by omega)) (fun c => absurd c (by omega)) (fun _ => ?_)
    rw [k8]
    refine hx_bs ?_
    rw [cn_isZero hL, if_pos rfl]
    refine hx_cs (Hx.cs (fun c => absurd c (by decide)) (fun _ => ?_))
    exact Hx.ret ⟨rfl, cW.rf hP, fun j y hj => (by cases hj), fun _ => hF⟩
  | succ k ih =>
    intro n i hi lo U L n0 s0 σ hn hle hhl hd hik hUL hP hx hU hL hF
    obtain ⟨n, rfl⟩ : ∃ j, n = j + 1 := ⟨n - 1, by omega⟩
    have k8 : ckK σ 8 L = some () := by
      rcases hUL with ⟨_, q⟩ | ⟨_, q⟩ <;> subst q
      · exact hx.ck 37 8 (by decide)
      · exact hx.ck 39 8 (by decide)
    have hUm : U ∈ PX x := by
      rcases hUL with ⟨q, _⟩ | ⟨q, _⟩ <;> subst q <;> simp
    rw [n_fX5_continuedForm_41]
    refine Hx.ce (sm_le (by omega) (by omega)) (fun c => absurd c (by omega)) (fun _ => ?_)
    rw [k8]
    refine hx_bs ?_
    rw [cn_isZero hL]
    by_cases c0 : lo = 0
    · subst c0
      rw [if_pos rfl]
      refine hx_cs (Hx.cs (fun c => absurd c (by decide)) (fun _ => ?_))
      have e : cfl (k + 1) hi 0 = [] := if_pos rfl
      rw [e]
      exact Hx.ret ⟨rfl, cW.rf hP, fun j y hj => (by cases hj), fun _ => hF⟩
    · rw [if_neg c0]
      refine hx_cs (Hx.cs (fun _ => ?_) (fun c => absurd rfl c))
      have e : cfl (k + 1) hi lo = (hi / lo) :: cfl k lo (hi % lo) := if_neg c0
      have hml := Nat.mod_lt hi (show 0 < lo by omega)
      have hhm := hlf_mod (show 0 < lo by omega) hle
      rw [Nat.pow_succ] at hhl
      have hdv : hi / lo < dig30 := Nat.lt_of_le_of_lt (Nat.div_le_self _ _) hd
      have hs4 : sml hi 4 := Nat.lt_trans hd dig30_bp
      have hq4 : sml (hi / lo) 4 := Nat.lt_trans hdv dig30_bp
      rw [show gF σ 9 7 (x + 18) = some (x + 33) from hx.gf 9 7 18 33 (by decide) (by decide)]
      refine hx_bs ?_
      rw [hx.ck 18 10 (by decide)]
      refine hx_bs ?_
      refine Hx.bd (cw_divide hP hx hU hL (show x + 33 ∈ PX x by simp) hUm (lt_bp hs4 (by omega)) (by omega)) (fun σ1 _ g => ?_)
      obtain ⟨hF1, hQ1, hR1⟩ := g
      have hx1 := hx.kW hF1
      have hL1 := hL.kW hF1 (by simp only [s3]; omega)
      have hX1 : FX σ1 (x + 60) s0 n0 1 := hF.kW hF1 (by simp only [s3]; omega)
      have G1 : cW x (sLo x) 0 0 σ σ1 := hF1.mo (fun r _ hr => by simp only [s3] at hr; unfold sLo; omega) (Nat.le_refl _) (Nat.le_refl _)
      have go : ∀ (τ : St) (s1' : Int) (n1 : Nat), cW x (sLo x) 0 0 σ τ → Nt τ U (hi % lo) → Nt τ L lo → FX τ (x + 60) s1' n1 1 → Hx (fX5_continuedForm_96 (fX5_continuedForm_41 n) τ (x + 18) (iz p) U L (nI i)) (fun σ' v => v = nI (i + (cfl (k + 1) hi lo).length) ∧ cW x (sLo x) 0 0 σ σ' ∧ (∀ (j y : Nat), (cfl k lo (hi % lo))[j]? = some y → p = ((i + 1 : Nat) : Int) + j → FX σ' (x + 60) 1 y 1) ∧ ((∀ j : Nat, j < (cfl k lo (hi % lo)).length → p ≠ ((i + 1 : Nat) : Int) + j) → FX σ' (x + 60) s1' n1 1)) := by
        intro τ s1' n1 hG hUt hLt hXt
        rw [n_fX5_continuedForm_96]
        refine hx_nm ?_
        rw [sm_add]
        refine (ih n (i + 1) lo (hi % lo) L U n1 s1' τ (by omega) (by omega) (by omega) (by omega) (by omega) (by omega) hG.hp (hx.kW hG) hLt hUt hXt).mo (fun σ' v g => ?_)
        obtain ⟨g1, g2, g3, g4⟩ := g
        refine ⟨?_, hG.tr0 g2 (fun _ _ h => h), g3, g4⟩
        rw [g1, e, List.length_cons]
        congr 1
        omega
      refine Hx.ce (show (nI i = iz p) = ((i : Int) = p) by rw [sm_iz, iz_eq (by omega) (by omega) (by omega) (by omega)]) (fun c => ?_) (fun c => ?_)
      · rw [show gF σ1 9 16 (x + 18) = some (x + 60) from hx1.gf 9 16 18 60 (by decide) (by decide)]
        refine hx_bs ?_
        obtain ⟨fs, _, hNn, hDn⟩ := hX1
        rw [(sm_gF (ci := 5) fs.1).trans (congrArg some fs.2.1.1)]
        refine hx_bs ?_
        rw [show gF σ1 9 7 (x + 18) = some (x + 33) from hx1.gf 9 7 18 33 (by decide) (by decide)]
        refine hx_bs ?_
        rw [show ckK σ1 8 (x + 60 + 1) = some () from hx1.ck 61 8 (by decide)]
        refine hx_bs ?_
        refine Hx.bd (cw_setTo hF1.hp hNn hQ1 (Or.inl (show x + 60 + 1 ∈ PX x by simp)) (lt_bp hq4 (by omega))) (fun σ2 _ g => ?_)
        obtain ⟨hF2, hN2⟩ := g
        have hx2 := hx1.kW hF2
        have fs2 := fs.kW hF2
        rw [show gF σ2 9 16 (x + 18) = some (x + 60) from hx2.gf 9 16 18 60 (by decide) (by decide)]
        refine hx_bs ?_
        have k6 : sK σ2 (x + 60) = 6 := fs2.1
        rw [sm_pI (ci := 5) k6]
        refine hx_bs ?_
        have hF3 := cWi (f := fid 5 0) (v := nI 1) hF2.hp (show sK σ2 (x + 60) ≠ 8 by omega) (show sK σ2 (x + 60) ≠ 100 by omega)
        have G3 : cW x (sLo x) 0 0 σ (wI σ2 (fid 5 0) (x + 60) (nI 1)) := (G1.tr0 hF2 (fun r _ hr => by simp only [s1] at hr; unfold sLo; omega)).tr0 hF3 (fun r _ hr => by simp only [s1] at hr; unfold sLo; omega)
        have hsg3 : Sg (wI σ2 (fid 5 0) (x + 60) (iz 1)) (x + 60) 1 := SgI k6
        rw [show iz 1 = nI 1 from rfl] at hsg3
        have hX3 : FX (wI σ2 (fid 5 0) (x + 60) (nI 1)) (x + 60) 1 (hi / lo) 1 := ⟨fs2.kW hF3, hsg3, hN2.kW hF3 (by simp only [s1]; omega), (hDn.kW hF2 (by simp only [s1]; omega)).kW hF3 (by simp only [s1]; omega)⟩
        refine (go _ 1 (hi / lo) G3 ((hR1.kW hF2 (by simp only [s1]; omega)).kW hF3 (by simp only [s1]; omega)) ((hL1.kW hF2 (by simp only [s1]; omega)).kW hF3 (by simp only [s1]; omega)) hX3).mo (fun σ' v g => ?_)
        obtain ⟨g1, g2, g3, g4⟩ := g
        refine ⟨g1, g2, fun j y hj hpj => ?_, fun hz => absurd c.symm (by
          have := hz 0 (by rw [e, List.length_cons]; omega)
          simpa using this)⟩
        rw [e] at hj
        cases j with
        | zero =>
          have hj : some (hi / lo) = some y := hj
          cases hj
          exact g4 (fun j _ q => by omega)
        | succ j => omega
      · refine (go σ1 s0 n0 G1 hR1 hL1 hX1).mo (fun σ' v g => ?_)
        obtain ⟨g1, g2, g3, g4⟩ := g
        refine ⟨g1, g2, fun j y hj hpj => ?_, fun hz => g4 (fun j hj q => ?_)⟩
        · rw [e] at hj
          cases j with
          | zero => omega
          | succ j => exact g3 j y hj (by omega)
        · have := hz (j + 1) (by rw [e, List.length_cons]; omega)
          omega
theorem cx_continuedForm {x a : Nat} {q : Qv} {p : Int} {σ : St} (hpb : -2147483648 ≤ p ∧ p < 2147483648) (hp : HP (PX x) σ) (hx : XS σ x) (hA : FX σ a q.1 q.2.1 q.2.2) (ha : x + 84 < a ∨ a = x + 3) (hq : qok q) : Hx (fX5_continuedForm σ (x + 18) a (iz p)) (fun σ' v => v = nI (1 + (cfq q).length) ∧ cW x (sLo x) 0 0 σ σ' ∧ (0 ≤ p ∧ p < 1 + (cfq q).length → FX σ' (x + 60) (cfv q p.toNat).1 (cfv q p.toNat).2.1 (cfv q p.toNat).2.2)) := by
  have hd4 : sml q.2.2 4 := Nat.lt_trans hq.2.2.2.2.2 dig30_bp
  have hfb := flo_b hq
  have ck := hx.ck 18 10 (by decide)
  rw [n_fX5_continuedForm, show gF σ 9 16 (x + 18) = some (x + 60) from hx.gf 9 16 18 60 (by decide) (by decide)]
  refine hx_bs ?_
  rw [ck]
  refine hx_bs ?_
  refine Hx.bd (cr_round hp hx hA (hx.fs 60 (by omega)) (by simp) (by simp) (by omega) (by omega) (by omega) (Or.inl rfl) hq) (fun σ1 _ g => ?_)
  obtain ⟨hF1, hX1, _⟩ := g
  have hx1 := hx.kW hF1
  have hA1 : FX σ1 a q.1 q.2.1 q.2.2 := hA.kW hF1 (by simp only [sR]; omega)
  have G1 : cW x (sLo x) 0 0 σ σ1 := hF1.mo (fun r _ hr => by simp only [sR] at hr; unfold sLo; omega) (Nat.le_refl _) (Nat.le_refl _)
  rw [hx1.ck 18 10 (by decide)]
  refine hx_bs ?_
  refine Hx.bd (cx_setAboveFloor hF1.hp hx1 hA1 ha hq) (fun σ2 _ g => ?_)
  obtain ⟨hF2, hL2⟩ := g
  have hx2 := hx1.kW hF2
  have hA2 : FX σ2 a q.1 q.2.1 q.2.2 := hA1.kW hF2 (by simp only [s3]; omega)
  have hX2 := hX1.kW hF2 (by simp only [s3]; omega)
  have G2 := G1.tr0 hF2 (fun r _ hr => by simp only [s3] at hr; unfold sLo; omega)
  obtain ⟨fsA, _, _, hD⟩ := hA2
  rw [show gF σ2 9 10 (x + 18) = some (x + 39) from hx2.gf 9 10 18 39 (by decide) (by decide)]
  refine hx_bs ?_
  rw [(sm_gF (ci := 5) fsA.1).trans (congrArg some fsA.2.1.2)]
  refine hx_bs ?_
  rw [show ckK σ2 8 (x + 39) = some () from hx2.ck 39 8 (by decide)]
  refine hx_bs ?_
  obtain ⟨z9, hZ9⟩ := hF2.hp.2 (x + 39) (by simp)
  refine Hx.bd (cw_setTo hF2.hp hZ9 hD (Or.inl (by simp)) (lt_bp hd4 (by omega))) (fun σ3 _ g => ?_)
  obtain ⟨hF3, hU3⟩ := g
  have hx3 := hx2.kW hF3
  have hL3 := hL2.kW hF3 (by simp only [s1]; omega)
  have hX3 := hX2.kW hF3 (by simp only [s1]; omega)
  have G3 := G2.tr0 hF3 (fun r _ hr => by simp only [s1] at hr; unfold sLo; omega)
  rw [show gF σ3 9 10 (x + 18) = some (x + 39) from hx3.gf 9 10 18 39 (by decide) (by decide)]
  refine hx_bs ?_
  rw [show gF σ3 9 9 (x + 18) = some (x + 37) from hx3.gf 9 9 18 37 (by decide) (by decide)]
  refine hx_bs ?_
  have hd30 := hq.2.2.2.2.2
  have h210 : q.2.2 * abv q < 2 ^ 210 := by
    have h1 : q.2.2 * abv q ≤ dig30 * dig30 := Nat.mul_le_mul (Nat.le_of_lt hd30) (by omega)
    have h2 : dig30 * dig30 < 2 ^ 210 := by unfold dig30; omega
    omega
  refine (cl_cf hpb 210 FU 1 q.2.2 (abv q) (x + 39) (x + 37) _ _ σ3 (by unfold FU; omega) (by omega) h210 hd30 (by omega) (Or.inl ⟨rfl, rfl⟩) hF3.hp hx3 hU3 hL3 hX3).mo (fun σ4 v g => ?_)
  obtain ⟨g1, g2, g3, g4⟩ := g
  refine ⟨g1, G3.tr0 g2 (fun _ _ h => h), fun hr => ?_⟩
  obtain ⟨j, rfl⟩ := Int.eq_ofNat_of_zero_le hr.1
  show FX σ4 (x + 60) (cfv q j).1 (cfv q j).2.1 (cfv q j).2.2
  cases j with
  | zero =>
    have h := g4 (fun i _ z => by omega)
    exact h
  | succ j =>
    have hj : j < (cfl 210 q.2.2 (abv q)).length := by
      have := hr.2
      unfold cfq at this
      omega
    have h := g3 j _ (List.getElem?_eq_getElem hj) (by omega)
    have e : cfv q (j + 1) = (1, (cfl 210 q.2.2 (abv q))[j], 1) := by
      have e2 : (cfq q)[j]? = some (cfl 210 q.2.2 (abv q))[j] := List.getElem?_eq_getElem hj
      show (match (cfq q)[j]? with
        | some x => ((1, x, 1) : Qv)
        | none => (0, 0, 1)) = _
      rw [e2]
    rw [e]
    exact h
theorem cfv_ok {q : Qv} (hq : qok q) (k : Nat) : qok (cfv q k) := by
  have hfb := flo_b hq
  have hd30 : (1 : Nat) < dig30 := by unfold dig30; omega
  have hz : qok (0, 0, 1) := ⟨Or.inl rfl, ⟨fun _ => rfl, fun _ => rfl⟩, Nat.one_pos, Nat.gcd_one_right 0, by show 0 < dig30; omega, hd30⟩
  cases k with
  | zero =>
    have h5 := hfb.2.2.2.2.1
    refine ⟨?_, ?_, Nat.one_pos, Nat.gcd_one_right _, h5, hd30⟩
    · show (if flo q = 0 then 0 else q.1) = 0 ∨ (if flo q = 0 then 0 else q.1) = 1 ∨ (if flo q = 0 then 0 else q.1) = -1
      split
      · exact Or.inl rfl
      · exact hq.1
    · show (if flo q = 0 then 0 else q.1) = 0 ↔ flo q = 0
      split
      · rename_i c
        exact ⟨fun _ => c, fun _ => rfl⟩
      · rename_i c
        exact ⟨fun z => absurd z (hfb.2.2.2.2.2.1 c), fun z => absurd z c⟩
  | succ k =>
    show qok (match (cfq q)[k]? with
        | some x => ((1, x, 1) : Qv)
        | none => (0, 0, 1))
    cases hk : (cfq q)[k]? with
    | none => exact hz
    | some y =>
      have hb := cfl_b 210 q.2.2 (abv q) y (by omega) (List.mem_of_getElem? hk)
      have := hq.2.2.2.2.2
      exact ⟨Or.inr (Or.inl rfl), ⟨fun z => (by have : (1 : Int) = 0 := z; omega), fun z => (by have : y = 0 := z; omega)⟩, Nat.one_pos, Nat.gcd_one_right _, by show y < dig30; omega, hd30⟩
theorem cfq_len (q : Qv) : (cfq q).length ≤ 210 := by
  have : ∀ (n hi lo : Nat), (cfl n hi lo).length ≤ n := by
    intro n
    induction n with
    | zero => intro hi lo; exact Nat.le_refl _
    | succ n ih =>
      intro hi lo
      unfold cfl
      split
      · exact Nat.zero_le _
      · rw [List.length_cons]
        have := ih lo (hi % lo)
        omega
  exact this _ _ _
theorem sLo_b {x r : Nat} (h : sLo x r) : x + 19 ≤ r ∧ r ≤ x + 64 := by unfold sLo at h; omega
theorem ki_continued {σ : St} {x o : Nat} {s : Kst} (h : KI σ x o s) : Hx (fX11_continued σ x) (KV x 0 0 s (1 + (cfq s.2.2.2.1).length : Nat) σ) := by
  obtain ⟨hp, hx, _, _, hQ⟩ := id h.1
  have hA := h.2.2.1.1
  rw [n_fX11_continued, show gF σ 15 16 x = some (x + 18) from hx.gf 15 16 0 18 (by decide) (by decide)]
  refine hx_bs ?_
  rw [sm_gF (show sK σ x = 15 + 1 from hx.k0)]
  refine hx_bs ?_
  rw [hx.ck 18 10 (by decide)]
  refine hx_bs ?_
  refine Hx.bd (cx_continuedForm (p := -1) (by omega) hp hx hA.2.2.2 hA.1 hA.2.2.1) (fun σ1 v g => ?_)
  obtain ⟨rfl, hF1, _⟩ := g
  obtain ⟨hK, hO⟩ := h.lowr hF1 (fun r hr => sLo_b hr)
  exact Hx.ret ⟨sm_iz _, ⟨o, hK⟩, hO⟩
theorem ki_copy {σ : St} {x o b : Nat} {s : Kst} {q : Qv} (h : KI σ x o s) (hq : qok q) (hb : FX σ b q.1 q.2.1 q.2.2) : Hx (fX11_takeCopy σ x b) (KV x 15 5 (ansK s q) q.1 σ) := by
  obtain ⟨hp, hx, _, _, hQ⟩ := id h.1
  refine (cx_takeCopy hp hx hQ h.2.2.2.2.1 hq hb).mo (fun σ' v g => ?_)
  obtain ⟨rfl, g1, g2, _, g4⟩ := g
  obtain ⟨hM, hQ', hO⟩ := fr_s1 h g1
  exact ⟨rfl, ⟨o, h.an hM hQ' (fun r hr => Or.inr hr) (fun q => by have : x + 65 = x := q; omega) g2 g4⟩, hO⟩
theorem ki_takeContinued {σ : St} {x o : Nat} {s : Kst} {z : Int} (hz : -2147483648 ≤ z ∧ z < 2147483648) (h : KI σ x o s) : Hx (fX11_takeContinued σ x (iz z)) (KO x 15 5 (if 0 ≤ z ∧ z < 1 + (cfq s.2.2.2.1).length then ansK s (cfv s.2.2.2.1 z.toNat) else s) (if 0 ≤ z ∧ z < 1 + (cfq s.2.2.2.1).length then none else some "java/lang/IndexOutOfBoundsException") (cfv s.2.2.2.1 z.toNat).1 σ) := by
  obtain ⟨hp, hx, _, _, hQ⟩ := id h.1
  have hA := h.2.2.1.1
  have hcl := cfq_len s.2.2.2.1
  rw [n_fX11_takeContinued]
  refine Hx.ce (show (iz z < nI 0) = (z < 0) by rw [show nI 0 = iz 0 from rfl, iz_lt (by omega) (by omega) (by omega) (by omega)]) (fun c => ?_) (fun c => ?_)
  · have hn : ¬ (0 ≤ z ∧ z < 1 + ((cfq s.2.2.2.1).length : Int)) := by omega
    rw [if_neg hn, if_neg hn, n_fX11_takeContinued_20]
    exact Hx.ret ⟨rfl, σ, rfl, ⟨o, h⟩, (cO.rf hp).mo (by omega) (by omega)⟩
  · rw [show gF σ 15 16 x = some (x + 18) from hx.gf 15 16 0 18 (by decide) (by decide)]
    refine hx_bs ?_
    rw [sm_gF (show sK σ x = 15 + 1 from hx.k0)]
    refine hx_bs ?_
    rw [hx.ck 18 10 (by decide)]
    refine hx_bs ?_
    refine Hx.bd (cx_continuedForm hz hp hx hA.2.2.2 hA.1 hA.2.2.1) (fun σ1 v g => ?_)
    obtain ⟨rfl, hF1, hX1⟩ := g
    obtain ⟨hK, hO⟩ := h.lowr hF1 (fun r hr => sLo_b hr)
    have hx1 := hx.kW hF1
    refine Hx.ce (show (iz z < nI (1 + (cfq s.2.2.2.1).length)) = (z < 1 + ((cfq s.2.2.2.1).length : Int)) by
      rw [sm_iz, iz_lt (by omega) (by omega) (by omega) (by omega)]
      simp) (fun c2 => ?_) (fun c2 => ?_)
    · have hn : 0 ≤ z ∧ z < 1 + ((cfq s.2.2.2.1).length : Int) := by omega
      rw [if_pos hn, if_pos hn]
      rw [show gF σ1 15 16 x = some (x + 18) from hx1.gf 15 16 0 18 (by decide) (by decide)]
      refine hx_bs ?_
      rw [show gF σ1 9 16 (x + 18) = some (x + 60) from hx1.gf 9 16 18 60 (by decide) (by decide)]
      refine hx_bs ?_
      rw [sm_ckK hx1.k0]
      refine hx_bs ?_
      refine Hx.bd (ki_copy hK (cfv_ok hA.2.2.1 z.toNat) (hX1 hn)) (fun σ2 v g => ?_)
      obtain ⟨rfl, hK2, hO2⟩ := g
      exact Hx.ret ⟨rfl, hK2, (hO.tr hO2).mo (by omega) (by omega)⟩
    · have hn : ¬ (0 ≤ z ∧ z < 1 + ((cfq s.2.2.2.1).length : Int)) := by omega
      rw [if_neg hn, if_neg hn, n_fX11_takeContinued_20]
      exact Hx.ret ⟨rfl, σ1, rfl, ⟨o, hK⟩, hO.mo (by omega) (by omega)⟩
