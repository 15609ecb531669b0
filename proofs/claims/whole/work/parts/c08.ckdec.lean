/-! ===== calls of the one that was built: ends, ahead, repeating ===== -/
theorem KI.lowr {σ σ' : St} {x o : Nat} {s : Kst} {S : Nat → Prop} (h : KI σ x o s) (hc : cW x S 0 0 σ σ') (hS : ∀ r, S r → x + 19 ≤ r ∧ r ≤ x + 64) : KI σ' x o s ∧ cO x 0 0 σ σ' := by
  obtain ⟨h0, ⟨t1, t2, t3⟩, ⟨a1, a2, a3, a4⟩, ⟨p1, p2⟩, hh, w, wp, hw⟩ := h
  have ho := p1.1
  obtain ⟨hp, hx, hk, ht, hQ⟩ := h0
  have hM : cM x S 0 0 σ σ' := hc.toM hx (fun T hT hs => by have := hS _ hs; rcases hT with g | g | g <;> omega)
  have hQ' := hQ.st hc hx (fun r hr => by have := hS _ hr; omega)
  have hmu : ∀ r, r < sz σ → S r → muS σ x r := fun r _ hr => Or.inl (by have := hS _ hr; omega)
  have hB := hM.toB hmu
  have ho2 : o = 11 ∨ o = 14 := ho
  have low : ∀ r, (r ≤ x + 18 ∨ x + 65 ≤ r) → ¬ S r := fun r hr hs => by have := hS _ hs; omega
  have hI : xI [] x σ σ' := xI.of hc hx (low x (by omega))
  refine ⟨⟨⟨hM.hp, hM.xs hx, hk.kB hB hx hQ, ht.kB hB hx hQ, hQ'⟩, ⟨t1.kW hc hx (hI.1 _ (fun q => by cases q)) (low _ (by omega)), (hI.1 _ (fun q => by cases q)).trans t2, t3.kW hc hx (fun f _ => hI.1 f (fun q => by cases q)) (low _ (by omega))⟩, ⟨?_, a2.kW hc hx hB hQ (low _ (by omega)), ⟨a3.kW hc (low _ (by omega)) (low _ (by omega)), ?_⟩⟩, ⟨⟨ho, (hI.2 _).trans p1.2.1, (hI.2 _).trans p1.2.2⟩, p2.kW hx hQ hc ⟨low _ (by omega), low _ (by omega), low _ (by omega)⟩ (fun r hr => by have := hS _ hr; omega)⟩, hh.kW2 hc hx hB hQ (hI.1 _ (fun q => by cases q)) (hI.1 _ (fun q => by cases q)) (low _ (by omega)), w, wp, hw.kW hc hx (low _ (by omega))⟩, hM.mo hmu (Nat.le_refl _) (Nat.le_refl _)⟩
  · unfold KAn
    rw [hI.2]
    exact KF.kB a1 hB hQ
  · have k2 := a3.1
    rw [(hc.sam (a := x + 9) (by omega) (Or.inl (by omega)) (low _ (by omega))).2.1]
    exact a4
theorem cl_two {x : Nat} {P : St → Int32 → Prop} : ∀ (k n c y : Nat) (σ : St), k < n → 0 < y → y < 2 ^ k → c + k ≤ 200 → HP (PX x) σ → XS σ x → Nt σ (x + 41) y → (∀ σ', cW x (s1 (x + 41)) 0 0 σ σ' → Nt σ' (x + 41) (pwf 2 k y).2 → Hx (fX5_lengthAhead_46 σ' (x + 18) (nI (c + (pwf 2 k y).1))) P) → Hx (fX5_lengthAhead_13 n σ (x + 18) (nI c)) P := by
  intro k
  induction k with
  | zero => intro n c y σ h1 h2 h3; rw [Nat.pow_zero] at h3; omega
  | succ k ih =>
    intro n c y σ hn h0 hy hc hp hx hN hk
    obtain ⟨n, rfl⟩ : ∃ j, n = j + 1 := ⟨n - 1, by omega⟩
    have eF : gF σ 9 11 (x + 18) = some (x + 41) := hx.gf 9 11 18 41 (by decide) (by decide)
    have e8 : ckK σ 8 (x + 41) = some () := hx.ck 41 8 (by decide)
    rw [n_fX5_lengthAhead_13]
    refine Hx.ce (sm_le (by omega) (by omega)) (fun c2 => absurd c2 (by omega)) (fun _ => ?_)
    rw [eF]
    refine hx_bs ?_
    rw [e8]
    refine hx_bs ?_
    rw [cn_isMultiple hN (Or.inl rfl)]
    refine hx_cs (Hx.ce nb0 (fun c2 => ?_) (fun c2 => ?_))
    · have hk := hk σ (cW.rf hp)
      rw [pwf_0 c2] at hk
      exact hk hN
    · have c2 := Classical.not_not.mp c2
      have e : pwf 2 (k + 1) y = ((pwf 2 k (y / 2)).1 + 1, (pwf 2 k (y / 2)).2) := if_pos c2
      rw [e] at hk
      refine hx_bs ?_
      refine hx_bs ?_
      refine Hx.bd (cw_lower hp hN (by omega) (by omega)) (fun σ1 _ g => ?_)
      obtain ⟨hF, _, hN1⟩ := g
      refine hx_nm ?_
      rw [sm_add]
      rw [Nat.pow_succ] at hy
      refine ih n (c + 1) (y / 2) σ1 (by omega) (by omega) (by omega) (by omega) hF.hp (hx.kW hF) hN1 (fun σ' hF2 hN2 => ?_)
      rw [show c + 1 + (pwf 2 k (y / 2)).1 = c + ((pwf 2 k (y / 2)).1 + 1) by omega]
      exact hk σ' (hF.tr0 hF2 (fun _ _ h => h)) hN2
theorem cl_five {x A : Nat} {P : St → Int32 → Prop} : ∀ (k n c y : Nat) (σ : St), k < n → 0 < y → y < 2 ^ k → c + k ≤ 200 → HP (PX x) σ → XS σ x → Nt σ (x + 41) y → (∀ σ', cW x (s1 (x + 41)) 0 0 σ σ' → Nt σ' (x + 41) (pwf 5 k y).2 → Hx (fX5_lengthAhead_81 σ' (nI A) (nI (c + (pwf 5 k y).1))) P) → Hx (fX5_lengthAhead_48 n σ (x + 18) (nI A) (nI c)) P := by
  intro k
  induction k with
  | zero => intro n c y σ h1 h2 h3; rw [Nat.pow_zero] at h3; omega
  | succ k ih =>
    intro n c y σ hn h0 hy hc hp hx hN hk
    obtain ⟨n, rfl⟩ : ∃ j, n = j + 1 := ⟨n - 1, by omega⟩
    have eF : gF σ 9 11 (x + 18) = some (x + 41) := hx.gf 9 11 18 41 (by decide) (by decide)
    have e8 : ckK σ 8 (x + 41) = some () := hx.ck 41 8 (by decide)
    rw [n_fX5_lengthAhead_48]
    refine Hx.ce (sm_le (by omega) (by omega)) (fun c2 => absurd c2 (by omega)) (fun _ => ?_)
    rw [eF]
    refine hx_bs ?_
    rw [e8]
    refine hx_bs ?_
    rw [cn_isMultiple hN (Or.inr rfl)]
    refine hx_cs (Hx.ce nb0 (fun c2 => ?_) (fun c2 => ?_))
    · have hk := hk σ (cW.rf hp)
      rw [pwf_0 c2] at hk
      exact hk hN
    · have c2 := Classical.not_not.mp c2
      have e : pwf 5 (k + 1) y = ((pwf 5 k (y / 5)).1 + 1, (pwf 5 k (y / 5)).2) := if_pos c2
      rw [e] at hk
      refine hx_bs ?_
      refine hx_bs ?_
      refine Hx.bd (cw_lower hp hN (by omega) (by omega)) (fun σ1 _ g => ?_)
      obtain ⟨hF, _, hN1⟩ := g
      refine hx_nm ?_
      rw [sm_add]
      rw [Nat.pow_succ] at hy
      refine ih n (c + 1) (y / 5) σ1 (by omega) (by omega) (by omega) (by omega) hF.hp (hx.kW hF) hN1 (fun σ' hF2 hN2 => ?_)
      rw [show c + 1 + (pwf 5 k (y / 5)).1 = c + ((pwf 5 k (y / 5)).1 + 1) by omega]
      exact hk σ' (hF.tr0 hF2 (fun _ _ h => h)) hN2
theorem twoy_b {y : Nat} (h : 0 < y ∧ y < dig30) : (0 < (twoy y).2 ∧ (twoy y).2 < dig30 ∧ (twoy y).1 ≤ 110) ∧ 0 < cory y ∧ cory y < dig30 ∧ (fivy y).1 ≤ 110 := by
  have h1 := pwf_pos (c := 2) (by omega) 110 y h.1
  have h2 := pwf_pos (c := 5) (by omega) 110 (twoy y).2 h1.1
  unfold cory fivy
  have e : pwf 2 110 y = twoy y := rfl
  rw [e] at h1
  refine ⟨⟨h1.1, by omega, h1.2.2⟩, h2.1, by omega, h2.2.2⟩
theorem cx_lengthAhead {x a n d : Nat} {s : Int} {σ : St} (hp : HP (PX x) σ) (hx : XS σ x) (hA : FX σ a s n d) (hd : 0 < d ∧ d < dig30) : Hx (fX5_lengthAhead σ (x + 18) a) (fun σ' v => v = nI (ahl d) ∧ cW x (s1 (x + 41)) 0 0 σ σ' ∧ Nt σ' (x + 41) (cory d)) := by
  obtain ⟨⟨f1, ⟨_, f3⟩, _⟩, _, _, hD⟩ := hA
  have eF : gF σ 9 11 (x + 18) = some (x + 41) := hx.gf 9 11 18 41 (by decide) (by decide)
  have e8 : ckK σ 8 (x + 41) = some () := hx.ck 41 8 (by decide)
  obtain ⟨z, hZ⟩ := hp.2 (x + 41) (by simp)
  obtain ⟨⟨b1, b2, b3⟩, _, _, b4⟩ := twoy_b hd
  have h110 := dig30_2
  rw [n_fX5_lengthAhead, eF]
  refine hx_bs ?_
  rw [(sm_gF (ci := 5) f1).trans (congrArg some f3)]
  refine hx_bs ?_
  rw [e8]
  refine hx_bs ?_
  refine Hx.bd (cw_setTo hp hZ hD (Or.inl (by simp)) (lt_bp (Nat.lt_trans hd.2 dig30_bp) (by omega))) (fun σ1 _ g => ?_)
  obtain ⟨hF1, hN1⟩ := g
  refine cl_two 110 FU 0 d σ1 (by unfold FU; omega) hd.1 (by omega) (by omega) hF1.hp (hx.kW hF1) hN1 (fun σ2 hF2 hN2 => ?_)
  rw [n_fX5_lengthAhead_46, Nat.zero_add]
  refine cl_five 110 FU 0 _ σ2 (by unfold FU; omega) b1 (by show (twoy d).2 < 2 ^ 110; omega) (by omega) hF2.hp ((hx.kW hF1).kW hF2) hN2 (fun σ3 hF3 hN3 => ?_)
  rw [n_fX5_lengthAhead_81, Nat.zero_add]
  refine Hx.ret ⟨?_, (hF1.tr0 hF2 (fun _ _ h => h)).tr0 hF3 (fun _ _ h => h), hN3⟩
  show (if nI (twoy d).1 < nI (fivy d).1 then nI (fivy d).1 else nI (twoy d).1) = _
  have hl := sm_lt (x := (twoy d).1) (y := (fivy d).1) (by omega) (by omega)
  unfold ahl
  by_cases c : (twoy d).1 < (fivy d).1
  · rw [if_pos (by rw [hl]; exact c), if_pos (by omega)]
  · rw [if_neg (by rw [hl]; exact c)]
    by_cases c2 : (twoy d).1 ≤ (fivy d).1
    · rw [if_pos c2, show (twoy d).1 = (fivy d).1 by omega]
    · rw [if_neg c2]
theorem cl_long {c M : Nat} (hc : 1 < c ∧ c < 100000000000000000) (hM : M ≤ 1000) : ∀ (j n k p : Nat) (σ : St), j < n → k + j = M + 1 → p < 100000000000000000 → fX5_lengthRepeating__6 n σ (nJ c) (nI M) (nJ p) (nI k) = some (σ, iz (rpf c j k p)) := by
  intro j
  induction j with
  | zero =>
    intro n k p σ hn hk hp
    obtain ⟨n, rfl⟩ : ∃ j, n = j + 1 := ⟨n - 1, by omega⟩
    rw [n_fX5_lengthRepeating__6, if_pos (by rw [sm_lt (by omega) (by omega)]; omega)]
    rfl
  | succ j ih =>
    intro n k p σ hn hk hp
    obtain ⟨n, rfl⟩ : ∃ j, n = j + 1 := ⟨n - 1, by omega⟩
    have hm := Nat.mod_lt (p * 10) (show 0 < c by omega)
    apply hx_eq
    rw [n_fX5_lengthRepeating__6]
    refine Hx.ce (sm_lt (by omega) (by omega)) (fun q => absurd q (by omega)) (fun _ => ?_)
    refine Hx.cs (fun q => absurd q ?_) (fun _ => ?_)
    · rw [jm_cmp (by omega) (by omega), if_pos (show 0 < c by omega)]
      decide
    · rw [ckDL_ok (by omega) (by omega)]
      refine hx_bs ?_
      rw [jm_mul, jm_mod (by omega) (by omega) (by omega)]
      refine hx_nm ?_
      have hrp : rpf c (j + 1) k p = if p * 10 % c = 1 then (k : Int) else rpf c j (k + 1) (p * 10 % c) := rfl
      rw [hrp, jm_cmp (by omega) (by omega)]
      by_cases q : p * 10 % c = 1
      · rw [if_pos q, q, if_pos (by decide), ← sm_iz]
        exact Hx.ret ⟨rfl, rfl⟩
      · rw [if_neg q, if_neg (by
          rw [if_neg q]
          split <;> decide)]
        refine hx_nm ?_
        rw [sm_add, ih n (k + 1) (p * 10 % c) σ (by omega) (by omega) (by omega)]
        exact Hx.ret ⟨rfl, rfl⟩
