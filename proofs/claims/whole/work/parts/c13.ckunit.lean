/-! ===== calls of the one that was built: unit fractions ===== -/
theorem iz_of (v : Int32) : iz v.toInt = v := Int32.ofInt_toInt v
def sUn (x r : Nat) : Prop := x + 19 ≤ r ∧ r ≤ x + 64
theorem unf_s {k X Y : Nat} (hX : 0 < X) (hY : 0 < Y) (hd : Y < dig30) : unf (k + 1) X Y = if (X * cdv Y X - Y) / Nat.gcd (X * cdv Y X - Y) (Y * cdv Y X) < dig30 ∧ (Y * cdv Y X) / Nat.gcd (X * cdv Y X - Y) (Y * cdv Y X) < dig30 then
      (unf k ((X * cdv Y X - Y) / Nat.gcd (X * cdv Y X - Y) (Y * cdv Y X)) ((Y * cdv Y X) / Nat.gcd (X * cdv Y X - Y) (Y * cdv Y X))).map (cdv Y X :: ·) else none := by
  have hb := cdv_b hX hY
  rw [unf, if_neg (by omega), if_neg (by omega)]
theorem unf_0 (k Y : Nat) : unf k 0 Y = some [] := by
  cases k <;> (unfold unf; rw [if_pos rfl])
theorem cl_un {x : Nat} {p : Int} (hpb : -2147483648 ≤ p ∧ p < 2147483648) : ∀ (k n i X Y A B dT n0 d0 : Nat) (s0 : Int) (σ : St), k < n → i + k = 8 → (A = x + 50 ∧ B = x + 55 ∨ A = x + 55 ∧ B = x + 50) → 0 < X → 0 < Y → X < dig30 → Y < dig30 → Nat.gcd X Y = 1 → HP (PX x) σ → XS σ x → FX σ A 1 X Y → FX σ (x + 45) 1 1 dT → FX σ (x + 60) s0 n0 d0 →
    Hx (fX5_unitFractions_61 n σ (x + 18) (iz p) A B (nI i)) (fun σ' v => cW x (sUn x) 0 0 σ σ' ∧ match unf k X Y with
      | none => v = iz (-1)
      | some l => v = nI (i + l.length) ∧ (∀ (j u : Nat), l[j]? = some u → p = (i : Int) + j → FX σ' (x + 60) 1 1 u) ∧ ((∀ j : Nat, j < l.length → p ≠ (i : Int) + j) → FX σ' (x + 60) s0 n0 d0)) := by
  intro k
  induction k with
  | zero =>
    intro n i X Y A B dT n0 d0 s0 σ hn hik hAB hX hY hXd hYd hg hP hx hA hT hF
    obtain ⟨n, rfl⟩ : ∃ j, n = j + 1 := ⟨n - 1, by omega⟩
    have e : unf 0 X Y = none := if_neg (by omega)
    rw [n_fX5_unitFractions_61, e]
    refine Hx.ce (sm_le (by omega) (by omega)) (fun _ => Hx.ret ⟨cW.rf hP, rfl⟩) (fun c => absurd c (by omega))
  | succ k ih =>
    intro n i X Y A B dT n0 d0 s0 σ hn hik hAB hX hY hXd hYd hg hP hx hA hT hF
    obtain ⟨n, rfl⟩ : ∃ j, n = j + 1 := ⟨n - 1, by omega⟩
    have hcb := cdv_b hX hY
    rw [unf_s hX hY hYd]
    have hY4 : sml Y 4 := Nat.lt_trans hYd dig30_bp
    have hX4 : sml X 4 := Nat.lt_trans hXd dig30_bp
    have hc30 : cdv Y X < dig30 := by omega
    have hc4 : sml (cdv Y X) 4 := Nat.lt_trans hc30 dig30_bp
    have h14 : sml 1 4 := sml_lit (show 1 < 1000000000 by omega) |> fun h => lt_bp h (by omega)
    obtain ⟨fsA, sgA, hN, hD⟩ := id hA
    obtain ⟨fsT, sgT, hTN, hTD⟩ := id hT
    rw [n_fX5_unitFractions_61]
    refine Hx.ce (sm_le (by omega) (by omega)) (fun c => absurd c (by omega)) (fun _ => ?_)
    rw [(sm_gF (ci := 5) fsA.1).trans (congrArg some fsA.2.1.2)]
    refine hx_bs ?_
    rw [(sm_gF (ci := 5) fsA.1).trans (congrArg some fsA.2.1.1)]
    refine hx_bs ?_
    rw [show gF σ 9 13 (x + 18) = some (x + 45) from hx.gf 9 13 18 45 (by decide) (by decide)]
    refine hx_bs ?_
    rw [show gF σ 5 2 (x + 45) = some (x + 48) from hx.gf 5 2 45 48 (by decide) (by decide)]
    refine hx_bs ?_
    rw [show gF σ 9 2 (x + 18) = some (x + 23) from hx.gf 9 2 18 23 (by decide) (by decide)]
    refine hx_bs ?_
    rw [hx.ck 18 10 (by decide)]
    refine hx_bs ?_
    refine Hx.bd (cw_divide hP hx hD hN (show x + 48 ∈ PX x by simp) (show x + 23 ∈ PX x by simp) (lt_bp hY4 (by omega)) (by omega)) (fun σ1 _ g => ?_)
    obtain ⟨hF1, hQ1, hR1⟩ := g
    have hx1 := hx.kW hF1
    have hA1 : FX σ1 A 1 X Y := hA.kW hF1 (by simp only [s3]; omega)
    have hX1 : FX σ1 (x + 60) s0 n0 d0 := hF.kW hF1 (by simp only [s3]; omega)
    have hT1 : FX σ1 (x + 45) 1 1 (Y / X) := ⟨fsT.kW hF1, sgT.kW hF1 (by simp only [s3]; omega), hTN.kW hF1 (by simp only [s3]; omega), hQ1⟩
    have G1 : cW x (sUn x) 0 0 σ σ1 := hF1.mo (fun r _ hr => by simp only [s3] at hr; unfold sUn; omega) (Nat.le_refl _) (Nat.le_refl _)
    -- what follows once the unit fraction stands
    have go : ∀ (τ : St) (s1' : Int) (n1 d1 : Nat), cW x (sUn x) 0 0 σ τ → FX τ A 1 X Y → FX τ (x + 45) 1 1 (cdv Y X) → FX τ (x + 60) s1' n1 d1 → Hx (fX5_unitFractions_130 (fX5_unitFractions_61 n) τ (x + 18) (iz p) A B (nI i)) (fun σ' v => cW x (sUn x) 0 0 σ σ' ∧ match (if (X * cdv Y X - Y) / Nat.gcd (X * cdv Y X - Y) (Y * cdv Y X) < dig30 ∧ (Y * cdv Y X) / Nat.gcd (X * cdv Y X - Y) (Y * cdv Y X) < dig30 then
        unf k ((X * cdv Y X - Y) / Nat.gcd (X * cdv Y X - Y) (Y * cdv Y X)) ((Y * cdv Y X) / Nat.gcd (X * cdv Y X - Y) (Y * cdv Y X)) else none) with
      | none => v = iz (-1)
      | some l => v = nI (i + (l.length + 1)) ∧ (∀ (j u : Nat), l[j]? = some u → p = ((i + 1 : Nat) : Int) + j → FX σ' (x + 60) 1 1 u) ∧ ((∀ j : Nat, j < l.length → p ≠ ((i + 1 : Nat) : Int) + j) → FX σ' (x + 60) s1' n1 d1)) := by
      intro τ s1' n1 d1 hG hAt hTt hXt
      have hxt := hx.kW hG
      have hB60 : B = x + 50 ∨ B = x + 55 := by omega
      have hI1 : B + 1 ∈ PX x := by rcases hB60 with q | q <;> subst q <;> simp
      have hI3 : B + 3 ∈ PX x := by rcases hB60 with q | q <;> subst q <;> simp
      have fsB : FS τ B := by
        rcases hB60 with q | q <;> subst q
        · exact hxt.fs 50 (by omega)
        · exact hxt.fs 55 (by omega)
      rw [n_fX5_unitFractions_130, show gF τ 9 13 (x + 18) = some (x + 45) from hxt.gf 9 13 18 45 (by decide) (by decide)]
      refine hx_bs ?_
      rw [hxt.ck 18 10 (by decide)]
      refine hx_bs ?_
      refine Hx.bd (cr_add (lf := 1) (u := -1) hG.hp hxt hAt hTt fsB hI1 hI3 (by omega) (by omega) (by omega) (by omega) (by omega) (lt_bp hX4 (by omega)) (lt_bp hY4 (by omega)) (lt_bp h14 (by omega)) (lt_bp hc4 (by omega)) (by omega) (by omega) hY hcb.2.1 hg (Nat.gcd_one_left _) (by omega) rfl) (fun σ2 _ g => ?_)
      obtain ⟨hF2, q, hq, hB2⟩ := g
      have eS : q = qmk (if X * cdv Y X = Y then 0 else 1) (X * cdv Y X - Y) (Y * cdv Y X) := by
        rw [hq, Nat.one_mul]
        have e1 : jnS 1 (-1) (X * cdv Y X) Y = if X * cdv Y X = Y then 0 else 1 := by
          unfold jnS
          rw [if_neg (by decide), if_neg (by decide), if_neg (by decide), if_neg (by omega)]
        have e2 : jnN 1 (-1) (X * cdv Y X) Y = X * cdv Y X - Y := by
          unfold jnN
          rw [if_neg (by decide), if_neg (by omega)]
        rw [e1, e2]
      clear hq
      generalize hU : X * cdv Y X - Y = U at *
      generalize hV : Y * cdv Y X = V at *
      have hV0 : 0 < V := by rw [← hV]; exact Nat.mul_pos hY hcb.2.1
      have q1 : q.1 = if U = 0 then 0 else (1 : Int) := by
        rw [eS]
        show (if U = 0 then 0 else if X * cdv Y X = Y then (0 : Int) else 1) = _
        by_cases c : U = 0
        · rw [if_pos c, if_pos c]
        · rw [if_neg c, if_neg c, if_neg (by omega)]
      have q2 : q.2.1 = U / Nat.gcd U V := by rw [eS]; rfl
      have q3 : q.2.2 = V / Nat.gcd U V := by rw [eS]; rfl
      have hx2 := hxt.kW hF2
      have hT2 : FX σ2 (x + 45) 1 1 (cdv Y X) := hTt.kW hF2 (by simp only [sR]; omega)
      have hX2 : FX σ2 (x + 60) s1' n1 d1 := hXt.kW hF2 (by simp only [sR]; omega)
      have G2 := hG.tr0 hF2 (fun r _ hr => by simp only [sR] at hr; unfold sUn; omega)
      rw [show gF σ2 9 13 (x + 18) = some (x + 45) from hx2.gf 9 13 18 45 (by decide) (by decide)]
      refine hx_bs ?_
      rw [sm_ckK hT2.1.1]
      refine hx_bs ?_
      rw [cf_fits hT2]
      refine hx_cs (Hx.ce nb0 (fun c => absurd ⟨by omega, by rw [lit30]; exact hc30⟩ c) (fun _ => ?_))
      rw [sm_ckK hB2.1.1]
      refine hx_bs ?_
      rw [cf_fits hB2]
      refine hx_cs (Hx.ce nb0 (fun c => ?_) (fun c => ?_))
      · rw [q2, q3, lit30] at c
        rw [if_neg c]
        exact Hx.ret ⟨G2, rfl⟩
      · have c := Classical.not_not.mp c
        rw [q2, q3, lit30] at c
        rw [if_pos c]
        rw [(sm_gI (ci := 5) hB2.1.1).trans (congrArg some hB2.2.1.2)]
        refine hx_bs ?_
        rw [q1]
        by_cases c2 : U = 0
        · rw [if_pos c2, c2, Nat.zero_div, unf_0]
          refine Hx.ce (show (iz (0 : Int) = nI 0) = True from propext ⟨fun _ => trivial, fun _ => rfl⟩) (fun _ => ?_) (fun z => absurd trivial z)
          rw [sm_add]
          exact Hx.ret ⟨G2, rfl, fun j u hj => (by cases hj), fun _ => hX2⟩
        · rw [if_neg c2]
          refine Hx.cs (fun z => absurd z (by decide)) (fun _ => hx_nm ?_)
          rw [sm_add]
          have hgp : 0 < Nat.gcd U V := Nat.gcd_pos_of_pos_left _ (by omega)
          have hB3 : FX σ2 B 1 (U / Nat.gcd U V) (V / Nat.gcd U V) := by
            rw [q1, if_neg c2, q2, q3] at hB2
            exact hB2
          refine (ih n (i + 1) _ _ B A (cdv Y X) n1 d1 s1' σ2 (by omega) (by omega) (by omega) (Nat.div_pos (Nat.gcd_le_left _ (by omega)) hgp) (Nat.div_pos (Nat.gcd_le_right _ hV0) hgp) c.1 c.2 (qmk_ok (s := 1) (x := U) (y := V) hV0 (fun _ => Or.inl rfl) c).2.2.2.1 G2.hp hx2 hB3 hT2 hX2).mo (fun σ3 v g => ?_)
          obtain ⟨g1, g2⟩ := g
          refine ⟨G2.tr0 g1 (fun _ _ h => h), ?_⟩
          cases hu : unf k (U / Nat.gcd U V) (V / Nat.gcd U V) with
          | none => rw [hu] at g2; exact g2
          | some l =>
            rw [hu] at g2
            obtain ⟨g3, g4, g5⟩ := g2
            refine ⟨?_, g4, g5⟩
            rw [g3]
            congr 1
            omega
    -- the place
    have h113 : ∀ (τ : St), cW x (sUn x) 0 0 σ τ → FX τ A 1 X Y → FX τ (x + 45) 1 1 (cdv Y X) → FX τ (x + 60) s0 n0 d0 → Hx (fX5_unitFractions_113 (fX5_unitFractions_61 n) τ (x + 18) (iz p) A B (nI i)) (fun σ' v => cW x (sUn x) 0 0 σ σ' ∧ match (if (X * cdv Y X - Y) / Nat.gcd (X * cdv Y X - Y) (Y * cdv Y X) < dig30 ∧ (Y * cdv Y X) / Nat.gcd (X * cdv Y X - Y) (Y * cdv Y X) < dig30 then
        (unf k ((X * cdv Y X - Y) / Nat.gcd (X * cdv Y X - Y) (Y * cdv Y X)) ((Y * cdv Y X) / Nat.gcd (X * cdv Y X - Y) (Y * cdv Y X))).map (cdv Y X :: ·) else none) with
      | none => v = iz (-1)
      | some l => v = nI (i + l.length) ∧ (∀ (j u : Nat), l[j]? = some u → p = (i : Int) + j → FX σ' (x + 60) 1 1 u) ∧ ((∀ j : Nat, j < l.length → p ≠ (i : Int) + j) → FX σ' (x + 60) s0 n0 d0)) := by
      intro τ hG hAt hTt hXt
      have hxt := hx.kW hG
      rw [n_fX5_unitFractions_113]
      refine Hx.ce (show (nI i = iz p) = ((i : Int) = p) by rw [sm_iz, iz_eq (by omega) (by omega) (by omega) (by omega)]) (fun c => ?_) (fun c => ?_)
      · rw [show gF τ 9 16 (x + 18) = some (x + 60) from hxt.gf 9 16 18 60 (by decide) (by decide)]
        refine hx_bs ?_
        rw [show gF τ 9 13 (x + 18) = some (x + 45) from hxt.gf 9 13 18 45 (by decide) (by decide)]
        refine hx_bs ?_
        rw [sm_ckK hXt.1.1]
        refine hx_bs ?_
        refine Hx.bd (cf_setTo hG.hp hXt hTt (by omega) (Or.inl (show x + 60 + 1 ∈ PX x by simp)) (Or.inl (show x + 60 + 3 ∈ PX x by simp)) (lt_bp h14 (by omega)) (lt_bp hc4 (by omega))) (fun σ2 _ g => ?_)
        obtain ⟨hF2, hX2⟩ := g
        have G2 := hG.tr0 hF2 (fun r _ hr => by simp only [s3] at hr; unfold sUn; omega)
        refine (go σ2 1 1 (cdv Y X) G2 (hAt.kW hF2 (by simp only [s3]; omega)) (hTt.kW hF2 (by simp only [s3]; omega)) hX2).mo (fun σ' v g => ?_)
        obtain ⟨g1, g2⟩ := g
        refine ⟨g1, ?_⟩
        split at g2
        · rename_i hz
          have : (if (X * cdv Y X - Y) / Nat.gcd (X * cdv Y X - Y) (Y * cdv Y X) < dig30 ∧ (Y * cdv Y X) / Nat.gcd (X * cdv Y X - Y) (Y * cdv Y X) < dig30 then (unf k ((X * cdv Y X - Y) / Nat.gcd (X * cdv Y X - Y) (Y * cdv Y X)) ((Y * cdv Y X) / Nat.gcd (X * cdv Y X - Y) (Y * cdv Y X))).map (cdv Y X :: ·) else none) = none := by
            split at hz
            · rename_i hc; rw [if_pos hc, hz]; rfl
            · rename_i hc; rw [if_neg hc]
          rw [this]
          exact g2
        · rename_i l hz
          have : (if (X * cdv Y X - Y) / Nat.gcd (X * cdv Y X - Y) (Y * cdv Y X) < dig30 ∧ (Y * cdv Y X) / Nat.gcd (X * cdv Y X - Y) (Y * cdv Y X) < dig30 then (unf k ((X * cdv Y X - Y) / Nat.gcd (X * cdv Y X - Y) (Y * cdv Y X)) ((Y * cdv Y X) / Nat.gcd (X * cdv Y X - Y) (Y * cdv Y X))).map (cdv Y X :: ·) else none) = some (cdv Y X :: l) := by
            split at hz
            · rename_i hc; rw [if_pos hc, hz]; rfl
            · cases hz
          rw [this]
          obtain ⟨g3, g4, g5⟩ := g2
          refine ⟨by rw [g3, List.length_cons], fun j u hj hpj => ?_, fun hz => absurd c.symm (by
            have := hz 0 (by rw [List.length_cons]; omega)
            simpa using this)⟩
          cases j with
          | zero =>
            have hj : some (cdv Y X) = some u := hj
            cases hj
            exact g5 (fun j _ q => by omega)
          | succ j => omega
      · refine (go τ s0 n0 d0 hG hAt hTt hXt).mo (fun σ' v g => ?_)
        obtain ⟨g1, g2⟩ := g
        refine ⟨g1, ?_⟩
        split at g2
        · rename_i hz
          have : (if (X * cdv Y X - Y) / Nat.gcd (X * cdv Y X - Y) (Y * cdv Y X) < dig30 ∧ (Y * cdv Y X) / Nat.gcd (X * cdv Y X - Y) (Y * cdv Y X) < dig30 then (unf k ((X * cdv Y X - Y) / Nat.gcd (X * cdv Y X - Y) (Y * cdv Y X)) ((Y * cdv Y X) / Nat.gcd (X * cdv Y X - Y) (Y * cdv Y X))).map (cdv Y X :: ·) else none) = none := by
            split at hz
            · rename_i hc; rw [if_pos hc, hz]; rfl
            · rename_i hc; rw [if_neg hc]
          rw [this]
          exact g2
        · rename_i l hz
          have : (if (X * cdv Y X - Y) / Nat.gcd (X * cdv Y X - Y) (Y * cdv Y X) < dig30 ∧ (Y * cdv Y X) / Nat.gcd (X * cdv Y X - Y) (Y * cdv Y X) < dig30 then (unf k ((X * cdv Y X - Y) / Nat.gcd (X * cdv Y X - Y) (Y * cdv Y X)) ((Y * cdv Y X) / Nat.gcd (X * cdv Y X - Y) (Y * cdv Y X))).map (cdv Y X :: ·) else none) = some (cdv Y X :: l) := by
            split at hz
            · rename_i hc; rw [if_pos hc, hz]; rfl
            · cases hz
          rw [this]
          obtain ⟨g3, g4, g5⟩ := g2
          refine ⟨by rw [g3, List.length_cons], fun j u hj hpj => ?_, fun hz => g5 (fun j hj q => ?_)⟩
          · cases j with
            | zero => omega
            | succ j => exact g4 j u hj (by omega)
          · have := hz (j + 1) (by rw [List.length_cons]; omega)
            omega
    rw [show gF σ1 9 2 (x + 18) = some (x + 23) from hx1.gf 9 2 18 23 (by decide) (by decide)]
    refine hx_bs ?_
    rw [show ckK σ1 8 (x + 23) = some () from hx1.ck 23 8 (by decide)]
    refine hx_bs ?_
    rw [cn_isZero hR1]
    refine hx_cs (Hx.ce nb0 (fun c => ?_) (fun c => ?_))
    · rw [show gF σ1 9 13 (x + 18) = some (x + 45) from hx1.gf 9 13 18 45 (by decide) (by decide)]
      refine hx_bs ?_
      rw [show gF σ1 5 2 (x + 45) = some (x + 48) from hx1.gf 5 2 45 48 (by decide) (by decide)]
      refine hx_bs ?_
      rw [show ckK σ1 8 (x + 48) = some () from hx1.ck 48 8 (by decide)]
      refine hx_bs ?_
      have hq4 : sml (Y / X) 4 := Nat.lt_of_le_of_lt (Nat.div_le_self _ _) hY4
      refine Hx.bd (cw_raise (c := 1) (d := 1) hF1.hp hQ1 (by omega) (by omega) (by omega) (lt_bp hq4 (by omega)) (Or.inl (show x + 48 ∈ PX x by simp))) (fun σ2 _ g => ?_)
      obtain ⟨hF2, hQ2⟩ := g
      rw [Nat.mul_one] at hQ2
      have ec : cdv Y X = Y / X + 1 := by unfold cdv; rw [if_pos (by omega)]
      have G2 := G1.tr0 hF2 (fun r _ hr => by simp only [s1] at hr; unfold sUn; omega)
      obtain ⟨fsT1, sgT1, hTN1, _⟩ := hT1
      refine h113 σ2 G2 (hA1.kW hF2 (by simp only [s1]; omega)) ⟨fsT1.kW hF2, sgT1.kW hF2 (by simp only [s1]; omega), hTN1.kW hF2 (by simp only [s1]; omega), ?_⟩ (hX1.kW hF2 (by simp only [s1]; omega))
      rw [ec]
      exact hQ2
    · have ec : cdv Y X = Y / X := by unfold cdv; rw [if_neg (by have := Classical.not_not.mp c; omega)]
      refine h113 σ1 G1 hA1 ?_ hX1
      rw [ec]
      exact hT1
theorem cx_unitFractions {x a : Nat} {q : Qv} {p : Int} {σ : St} (hpb : -2147483648 ≤ p ∧ p < 2147483648) (hp : HP (PX x) σ) (hx : XS σ x) (hA : FX σ a q.1 q.2.1 q.2.2) (ha : x + 84 < a ∨ a = x + 3) (hq : qok q) : Hx (fX5_unitFractions σ (x + 18) a (iz p)) (fun σ' v => cW x (sUn x) 0 0 σ σ' ∧ v = iz (unv (unq q)) ∧ ∀ (l : List Nat) (u : Nat), unq q = some l → 0 ≤ p → l[p.toNat]? = some u → FX σ' (x + 60) 1 1 u) := by
  have hsg := hq.sg
  have hn4 : sml q.2.1 4 := Nat.lt_trans hq.2.2.2.2.1 dig30_bp
  have hd4 : sml q.2.2 4 := Nat.lt_trans hq.2.2.2.2.2 dig30_bp
  obtain ⟨fsA, sgA, hN, hD⟩ := id hA
  rw [n_fX5_unitFractions, (sm_gI (ci := 5) fsA.1).trans (congrArg some sgA.2)]
  refine hx_bs (Hx.ce (show (iz q.1 ≤ nI 0) = (q.1 ≤ 0) by rw [show nI 0 = iz 0 from rfl, iz_le (by omega) (by omega) (by omega) (by omega)]) (fun c => ?_) (fun c => ?_))
  · have e : unq q = none := if_neg (fun z => by omega)
    rw [e]
    exact Hx.ret ⟨cW.rf hp, rfl, fun l u hl => (by cases hl)⟩
  · rw [(sm_gF (ci := 5) fsA.1).trans (congrArg some fsA.2.1.1)]
    refine hx_bs ?_
    rw [(sm_gF (ci := 5) fsA.1).trans (congrArg some fsA.2.1.2)]
    refine hx_bs ?_
    rw [sm_ckK fsA.2.2.1.1]
    refine hx_bs ?_
    rw [cn_against hN hD]
    have hcb := cmp3_b q.2.1 q.2.2
    refine hx_cs (Hx.ce (show (iz (cmp3 q.2.1 q.2.2) < nI 0) = (cmp3 q.2.1 q.2.2 < 0) by rw [show nI 0 = iz 0 from rfl, iz_lt (by omega) (by omega) (by omega) (by omega)]) (fun c2 => ?_) (fun c2 => ?_))
    · rw [cmp3_lt] at c2
      have e : unq q = unf 8 q.2.1 q.2.2 := if_pos ⟨by omega, c2⟩
      have hq1 : q.1 = 1 := by omega
      have hX0 : 0 < q.2.1 := by
        have := hq.2.1
        omega
      rw [show gF σ 9 14 (x + 18) = some (x + 50) from hx.gf 9 14 18 50 (by decide) (by decide)]
      refine hx_bs ?_
      rw [show gF σ 9 15 (x + 18) = some (x + 55) from hx.gf 9 15 18 55 (by decide) (by decide)]
      refine hx_bs ?_
      rw [show ckK σ 6 (x + 50) = some () from hx.ck 50 6 (by decide)]
      refine hx_bs ?_
      obtain ⟨n5, hn5⟩ := hp.2 (x + 50 + 1) (by simp)
      obtain ⟨d5, hd5⟩ := hp.2 (x + 50 + 3) (by simp)
      have fs5 := hx.fs 50 (by omega)
      obtain ⟨s5, hs5⟩ : ∃ s : Int, Sg σ (x + 50) s := ⟨(sI σ (fid 5 0) (x + 50)).toInt, fs5.1, (iz_of _).symm⟩
      refine Hx.bd (cf_setTo hp ⟨fs5, hs5, hn5, hd5⟩ hA (by omega) (Or.inl (show x + 50 + 1 ∈ PX x by simp)) (Or.inl (show x + 50 + 3 ∈ PX x by simp)) (lt_bp hn4 (by omega)) (lt_bp hd4 (by omega))) (fun σ1 _ g => ?_)
      obtain ⟨hF1, hA1⟩ := g
      have hx1 := hx.kW hF1
      have G1 : cW x (sUn x) 0 0 σ σ1 := hF1.mo (fun r _ hr => by simp only [s3] at hr; unfold sUn; omega) (Nat.le_refl _) (Nat.le_refl _)
      rw [show gF σ1 9 13 (x + 18) = some (x + 45) from hx1.gf 9 13 18 45 (by decide) (by decide)]
      refine hx_bs ?_
      rw [show gF σ1 5 1 (x + 45) = some (x + 46) from hx1.gf 5 1 45 46 (by decide) (by decide)]
      refine hx_bs ?_
      rw [show ckK σ1 8 (x + 46) = some () from hx1.ck 46 8 (by decide)]
      refine hx_bs ?_
      obtain ⟨n6, hn6⟩ := hF1.hp.2 (x + 46) (by simp)
      refine Hx.bd (cw_setSmall (v := 1) hF1.hp hn6 (by omega)) (fun σ2 _ g => ?_)
      obtain ⟨hF2, hT2⟩ := g
      have hx2 := hx1.kW hF2
      have hA2 := hA1.kW hF2 (by simp only [s1]; omega)
      have G2 := G1.tr0 hF2 (fun r _ hr => by simp only [s1] at hr; unfold sUn; omega)
      rw [show gF σ2 9 13 (x + 18) = some (x + 45) from hx2.gf 9 13 18 45 (by decide) (by decide)]
      refine hx_bs ?_
      have fsT := hx2.fs 45 (by omega)
      have k6 : sK σ2 (x + 45) = 6 := fsT.1
      rw [sm_pI (ci := 5) k6]
      refine hx_bs ?_
      have hF3 := cWi (f := fid 5 0) (v := nI 1) hF2.hp (show sK σ2 (x + 45) ≠ 8 by omega) (show sK σ2 (x + 45) ≠ 100 by omega)
      have G3 := G2.tr0 hF3 (fun r _ hr => by simp only [s1] at hr; unfold sUn; omega)
      have hx3 := hx2.kW hF3
      have hsg3 : Sg (wI σ2 (fid 5 0) (x + 45) (iz 1)) (x + 45) 1 := SgI k6
      rw [show iz 1 = nI 1 from rfl] at hsg3
      have hA3 := hA2.kW hF3 (by simp only [s1]; omega)
      obtain ⟨dT, hdT⟩ := hF3.hp.2 (x + 45 + 3) (by simp)
      have hT3 : FX (wI σ2 (fid 5 0) (x + 45) (nI 1)) (x + 45) 1 1 dT := ⟨fsT.kW hF3, hsg3, hT2.kW hF3 (by simp only [s1]; omega), hdT⟩
      obtain ⟨n7, hn7⟩ := hF3.hp.2 (x + 60 + 1) (by simp)
      obtain ⟨d7, hd7⟩ := hF3.hp.2 (x + 60 + 3) (by simp)
      have fs7 := hx3.fs 60 (by omega)
      have hX3 : FX (wI σ2 (fid 5 0) (x + 45) (nI 1)) (x + 60) (sI (wI σ2 (fid 5 0) (x + 45) (nI 1)) (fid 5 0) (x + 60)).toInt n7 d7 := ⟨fs7, ⟨fs7.1, (iz_of _).symm⟩, hn7, hd7⟩
      rw [hq1] at hA3
      refine (cl_un hpb 8 FU 0 q.2.1 q.2.2 (x + 50) (x + 55) dT n7 d7 _ _ (by unfold FU; omega) (by omega) (Or.inl ⟨rfl, rfl⟩) hX0 hq.2.2.1 hq.2.2.2.2.1 hq.2.2.2.2.2 hq.2.2.2.1 hF3.hp hx3 hA3 hT3 hX3).mo (fun σ4 v g => ?_)
      obtain ⟨g1, g2⟩ := g
      refine ⟨G3.tr0 g1 (fun _ _ h => h), ?_⟩
      rw [e]
      cases hu : unf 8 q.2.1 q.2.2 with
      | none =>
        rw [hu] at g2
        exact ⟨g2, fun l u hl => (by cases hl)⟩
      | some l =>
        rw [hu] at g2
        obtain ⟨g3, g4, g5⟩ := g2
        refine ⟨?_, fun l' u hl hp0 hlu => ?_⟩
        · rw [g3, Nat.zero_add]
          exact sm_iz _
        · cases hl
          exact g4 _ u hlu (by omega)
    · rw [cmp3_lt] at c2
      have e : unq q = none := if_neg (fun z => c2 z.2)
      rw [e]
      exact Hx.ret ⟨cW.rf hp, rfl, fun l u hl => (by cases hl)⟩
theorem ki_units {σ : St} {x o : Nat} {s : Kst} (h : KI σ x o s) : Hx (fX11_units σ x) (KV x 0 0 s (unv (unq s.2.2.2.1)) σ) := by
  obtain ⟨hp, hx, _, _, hQ⟩ := id h.1
  have hA := h.2.2.1.1
  rw [n_fX11_units, show gF σ 15 16 x = some (x + 18) from hx.gf 15 16 0 18 (by decide) (by decide)]
  refine hx_bs ?_
  rw [sm_gF (show sK σ x = 15 + 1 from hx.k0)]
  refine hx_bs ?_
  rw [hx.ck 18 10 (by decide)]
  refine hx_bs ?_
  refine Hx.bd (cx_unitFractions (p := -1) (by omega) hp hx hA.2.2.2 hA.1 hA.2.2.1) (fun σ1 v g => ?_)
  obtain ⟨hF1, rfl, _⟩ := g
  obtain ⟨hK, hO⟩ := h.lowr hF1 (fun r hr => hr)
  exact Hx.ret ⟨rfl, ⟨o, hK⟩, hO⟩
