/-! ===== calls of the one that was built: ends, ahead, repeating ===== -/
theorem KI.lowr {σ σ' : St} {x o : Nat} {s : Kst} {S : Nat → Prop} (h : KI σ x o s) (hc : cW x S 0 0 σ σ') (hS : ∀ r, S r → x + 19 ≤ r ∧ r ≤ x + 64) : KI σ' x o s ∧ cO x 0 0 σ σ' := by
  obtain ⟨h0, ⟨t1, t2, t3⟩, ⟨a1, a2, a3, a4⟩, ⟨p1, p2⟩, hh, w, wp, hw⟩ := h
  have ho := p1.1
  obtain ⟨hp, hx, hk, ht, hQ⟩ := h0
  have hM : cM x S 0 0 σ σ' := hc.toM hx (fun T hT hs => by have := hS _ hs; rcases hT with g | g | g <;> omega)
  have hQ' := hQ.st hc hx (fun r hr => by have := hS _ hr; omega)
  have hmu : ∀ r, r < sz σ → S r → muO σ x r := fun r _ hr => Or.inl (by have := hS _ hr; omega)
  have hB := hM.toB (fun r h1 h2 => (hmu r h1 h2).S)
  have ho2 : o = 11 ∨ o = 14 := ho
  have low : ∀ r, (r ≤ x + 18 ∨ x + 65 ≤ r) → ¬ S r := fun r hr hs => by have := hS _ hs; omega
  have hI : xI [] x σ σ' := xI.of hc hx (low x (by omega))
  refine ⟨⟨⟨hM.hp, hM.xs hx, hk.kB hB hx hQ, ht.kB hB hx hQ, hQ'⟩, ⟨t1.kW hc hx (hI.1 _ (fun q => by cases q)) (low _ (by omega)), (hI.1 _ (fun q => by cases q)).trans t2, t3.kW hc hx (fun f _ => hI.1 f (fun q => by cases q)) (low _ (by omega))⟩, ⟨?_, a2.kW hc hx hB hQ (low _ (by omega)), ⟨a3.kW hc (low _ (by omega)) (low _ (by omega)), ?_⟩⟩, ⟨⟨ho, (hI.2 _).trans p1.2.1, (hI.2 _).trans p1.2.2⟩, p2.kW hx hQ hc ⟨low _ (by omega), low _ (by omega), low _ (by omega)⟩ (fun r hr => by have := hS _ hr; omega)⟩, hh.kW2 hc hx hB hQ (hI.1 _ (fun q => by cases q)) (hI.1 _ (fun q => by cases q)) (low _ (by omega)), w, wp, hw.kW hc hx (low _ (by omega))⟩, hM.mo hmu (Nat.le_refl _) (Nat.le_refl _)⟩
  · unfold KAn
    rw [hI.2]
    exact KF.kB a1 hB hQ
  · have k2 := a3.1
    rw [(hc.sam (a := x + 9) (by omega) (Or.inl (by omega)) (low _ (by omega))).2.1]
    exact a4
theorem cl_two {x : Nat} {P : St → Int32 → Prop} : ∀ (k n c y : Nat) (σ : St), k < n → 0 < y → y < 2 ^ k → c + k ≤ 200 → HP (PX x) σ → XS σ x → Nt σ (x + 41) y → (∀ σ', cW x (s1 (x + 41)) 0 0 σ σ' → Nt σ' (x + 41) (pwf 2 k y).2 → Hx (fX5_lengthAhead_46 σ' (x + 18) (nI (c + (pwf 2 k y).1))) P) → Hx (fX5_lengthAhead_13 n σ (x + 18) (nI c)) P := by
  intro k
  induction k with
  | zero => intro n c y σ h1 h2 h3; rw [Nat.pow_zero] at h3; omega
  | succ k ih =>
    intro n c y σ hn h0 hy hc hp hx hN hk
    obtain ⟨n, rfl⟩ : ∃ j, n = j + 1 := ⟨n - 1, by omega⟩
    have eF : gF σ 9 11 (x + 18) = some (x + 41) := hx.gf 9 11 18 41 (by decide) (by decide)
    have e8 : ckK σ 8 (x + 41) = some () := hx.ck 41 8 (by decide)
    rw [n_fX5_lengthAhead_13]
    refine Hx.ce (sm_le (by omega) (by omega)) (fun c2 => absurd c2 (by omega)) (fun _ => ?_)
    rw [eF]
    refine hx_bs ?_
    rw [e8]
    refine hx_bs ?_
    rw [cn_isMultiple hN (Or.inl rfl)]
    refine hx_cs (Hx.ce nb0 (fun c2 => ?_) (fun c2 => ?_))
    · have hk := hk σ (cW.rf hp)
      rw [pwf_0 c2] at hk
      exact hk hN
    · have c2 := Classical.not_not.mp c2
      have e : pwf 2 (k + 1) y = ((pwf 2 k (y / 2)).1 + 1, (pwf 2 k (y / 2)).2) := if_pos c2
      rw [e] at hk
      rw [eF]
      refine hx_bs ?_
      rw [e8]
      refine hx_bs ?_
      refine Hx.bd (cw_lower (c := 2) hp hN (by omega) (by omega)) (fun σ1 _ g => ?_)
      obtain ⟨hF, _, hN1⟩ := g
      refine hx_nm ?_
      rw [sm_add]
      rw [Nat.pow_succ] at hy
      refine ih n (c + 1) (y / 2) σ1 (by omega) (by omega) (by omega) (by omega) hF.hp (hx.kW hF) hN1 (fun σ' hF2 hN2 => ?_)
      rw [show c + 1 + (pwf 2 k (y / 2)).1 = c + ((pwf 2 k (y / 2)).1 + 1) by omega]
      exact hk σ' (hF.tr0 hF2 (fun _ _ h => h)) hN2
theorem cl_five {x A : Nat} {P : St → Int32 → Prop} : ∀ (k n c y : Nat) (σ : St), k < n → 0 < y → y < 2 ^ k → c + k ≤ 200 → HP (PX x) σ → XS σ x → Nt σ (x + 41) y → (∀ σ', cW x (s1 (x + 41)) 0 0 σ σ' → Nt σ' (x + 41) (pwf 5 k y).2 → Hx (fX5_lengthAhead_81 σ' (nI A) (nI (c + (pwf 5 k y).1))) P) → Hx (fX5_lengthAhead_48 n σ (x + 18) (nI A) (nI c)) P := by
  intro k
  induction k with
  | zero => intro n c y σ h1 h2 h3; rw [Nat.pow_zero] at h3; omega
  | succ k ih =>
    intro n c y σ hn h0 hy hc hp hx hN hk
    obtain ⟨n, rfl⟩ : ∃ j, n = j + 1 := ⟨n - 1, by omega⟩
    have eF : gF σ 9 11 (x + 18) = some (x + 41) := hx.gf 9 11 18 41 (by decide) (by decide)
    have e8 : ckK σ 8 (x + 41) = some () := hx.ck 41 8 (by decide)
    rw [n_fX5_lengthAhead_48]
    refine Hx.ce (sm_le (by omega) (by omega)) (fun c2 => absurd c2 (by omega)) (fun _ => ?_)
    rw [eF]
    refine hx_bs ?_
    rw [e8]
    refine hx_bs ?_
    rw [cn_isMultiple hN (Or.inr rfl)]
    refine hx_cs (Hx.ce nb0 (fun c2 => ?_) (fun c2 => ?_))
    · have hk := hk σ (cW.rf hp)
      rw [pwf_0 c2] at hk
      exact hk hN
    · have c2 := Classical.not_not.mp c2
      have e : pwf 5 (k + 1) y = ((pwf 5 k (y / 5)).1 + 1, (pwf 5 k (y / 5)).2) := if_pos c2
      rw [e] at hk
      rw [eF]
      refine hx_bs ?_
      rw [e8]
      refine hx_bs ?_
      refine Hx.bd (cw_lower (c := 5) hp hN (by omega) (by omega)) (fun σ1 _ g => ?_)
      obtain ⟨hF, _, hN1⟩ := g
      refine hx_nm ?_
      rw [sm_add]
      rw [Nat.pow_succ] at hy
      refine ih n (c + 1) (y / 5) σ1 (by omega) (by omega) (by omega) (by omega) hF.hp (hx.kW hF) hN1 (fun σ' hF2 hN2 => ?_)
      rw [show c + 1 + (pwf 5 k (y / 5)).1 = c + ((pwf 5 k (y / 5)).1 + 1) by omega]
      exact hk σ' (hF.tr0 hF2 (fun _ _ h => h)) hN2
theorem twoy_b {y : Nat} (h : 0 < y ∧ y < dig30) : (0 < (twoy y).2 ∧ (twoy y).2 < dig30 ∧ (twoy y).1 ≤ 110) ∧ 0 < cory y ∧ cory y < dig30 ∧ (fivy y).1 ≤ 110 := by
  have h1 := pwf_pos (c := 2) (by omega) 110 y h.1
  have h2 := pwf_pos (c := 5) (by omega) 110 (twoy y).2 h1.1
  unfold cory fivy
  have e : pwf 2 110 y = twoy y := rfl
  rw [e] at h1
  refine ⟨⟨h1.1, by omega, h1.2.2⟩, h2.1, by omega, h2.2.2⟩
theorem cx_lengthAhead {x a n d : Nat} {s : Int} {σ : St} (hp : HP (PX x) σ) (hx : XS σ x) (hA : FX σ a s n d) (hd : 0 < d ∧ d < dig30) : Hx (fX5_lengthAhead σ (x + 18) a) (fun σ' v => v = nI (ahl d) ∧ cW x (s1 (x + 41)) 0 0 σ σ' ∧ Nt σ' (x + 41) (cory d)) := by
  obtain ⟨⟨f1, ⟨_, f3⟩, _⟩, _, _, hD⟩ := hA
  have eF : gF σ 9 11 (x + 18) = some (x + 41) := hx.gf 9 11 18 41 (by decide) (by decide)
  have e8 : ckK σ 8 (x + 41) = some () := hx.ck 41 8 (by decide)
  obtain ⟨z, hZ⟩ := hp.2 (x + 41) (by simp)
  obtain ⟨⟨b1, b2, b3⟩, _, _, b4⟩ := twoy_b hd
  have h110 := dig30_2
  rw [n_fX5_lengthAhead, eF]
  refine hx_bs ?_
  rw [(sm_gF (ci := 5) f1).trans (congrArg some f3)]
  refine hx_bs ?_
  rw [e8]
  refine hx_bs ?_
  refine Hx.bd (cw_setTo hp hZ hD (Or.inl (by simp)) (lt_bp (Nat.lt_trans hd.2 dig30_bp) (by omega))) (fun σ1 _ g => ?_)
  obtain ⟨hF1, hN1⟩ := g
  refine cl_two 110 FU 0 d σ1 (by unfold FU; omega) hd.1 (by omega) (by omega) hF1.hp (hx.kW hF1) hN1 (fun σ2 hF2 hN2 => ?_)
  rw [n_fX5_lengthAhead_46, Nat.zero_add]
  refine cl_five 110 FU 0 _ σ2 (by unfold FU; omega) b1 (by show (twoy d).2 < 2 ^ 110; omega) (by omega) hF2.hp ((hx.kW hF1).kW hF2) hN2 (fun σ3 hF3 hN3 => ?_)
  rw [n_fX5_lengthAhead_81, Nat.zero_add]
  refine Hx.ret ⟨?_, (hF1.tr0 hF2 (fun _ _ h => h)).tr0 hF3 (fun _ _ h => h), hN3⟩
  show (if nI (twoy d).1 < nI (fivy d).1 then nI (fivy d).1 else nI (twoy d).1) = _
  have hl := sm_lt (a := (twoy d).1) (b := (fivy d).1) (by omega) (by omega)
  unfold ahl
  by_cases c : (twoy d).1 < (fivy d).1
  · rw [if_pos (by rw [hl]; exact c), if_pos (by omega)]
  · rw [if_neg (by rw [hl]; exact c)]
    by_cases c2 : (twoy d).1 ≤ (fivy d).1
    · rw [if_pos c2, show (twoy d).1 = (fivy d).1 by omega]
    · rw [if_neg c2]
theorem cl_long {c M : Nat} (hc : 1 < c ∧ c < 100000000000000000) (hM : M ≤ 1000) : ∀ (j n k p : Nat) (σ : St), j < n → k + j = M + 1 → p < 100000000000000000 → fX5_lengthRepeating__6 n σ (nJ c) (nI M) (nJ p) (nI k) = some (σ, iz (rpf c j k p)) := by
  intro j
  induction j with
  | zero =>
    intro n k p σ hn hk hp
    obtain ⟨n, rfl⟩ : ∃ j, n = j + 1 := ⟨n - 1, by omega⟩
    rw [n_fX5_lengthRepeating__6, if_pos (by rw [sm_lt (by omega) (by omega)]; omega)]
    rfl
  | succ j ih =>
    intro n k p σ hn hk hp
    obtain ⟨n, rfl⟩ : ∃ j, n = j + 1 := ⟨n - 1, by omega⟩
    have hm := Nat.mod_lt (p * 10) (show 0 < c by omega)
    apply hx_eq
    rw [n_fX5_lengthRepeating__6]
    refine Hx.ce (sm_lt (by omega) (by omega)) (fun q => absurd q (by omega)) (fun _ => ?_)
    refine Hx.cs (fun q => absurd q ?_) (fun _ => ?_)
    · rw [jm_cmp (by omega) (by omega), if_pos (show 0 < c by omega)]
      decide
    · rw [ckDL_ok (by omega) (by omega)]
      refine hx_bs ?_
      rw [jm_mul, jm_mod (by omega) (by omega) (by omega)]
      refine hx_nm ?_
      have hrp : rpf c (j + 1) k p = if p * 10 % c = 1 then (k : Int) else rpf c j (k + 1) (p * 10 % c) := rfl
      rw [hrp, jm_cmp (by omega) (by omega)]
      by_cases q : p * 10 % c = 1
      · rw [if_pos q, q, if_pos (by decide)]
        exact Hx.ret ⟨rfl, sm_iz _⟩
      · rw [if_neg q, if_neg (by split <;> decide)]
        refine hx_nm ?_
        rw [sm_add, ih n (k + 1) (p * 10 % c) σ (by omega) (by omega) (by omega)]
        exact Hx.ret ⟨rfl, by rw [if_neg q]⟩
theorem mod_unf {a c : Nat} (h : c ≤ a) : a % c = (a - c) % c := Nat.mod_eq_sub_mod h
/-- nine times at most the core is taken away -/
theorem cl_nine {x c k : Nat} {M : Int32} {P : St → Int32 → Prop} {K : St → Nat → Int32 → Int32 → Option (St × Int32)} (hc : 0 < c) : ∀ (j n i r : Nat) (σ : St), j < n → i + j = 9 → r < (j + 1) * c → HP (PX x) σ → XS σ x → Nt σ (x + 37) r → Nt σ (x + 41) c → (∀ σ', cW x (s1 (x + 37)) 0 0 σ σ' → Nt σ' (x + 37) (r % c) → Hx (fX5_lengthRepeating_113 K σ' (x + 18) M (nI k)) P) → Hx (fX5_lengthRepeating_76 K n σ (x + 18) M (nI k) (nI i)) P := by
  intro j
  induction j with
  | zero =>
    intro n i r σ hn hi hr hp hx hL hC hk
    obtain ⟨n, rfl⟩ : ∃ j, n = j + 1 := ⟨n - 1, by omega⟩
    rw [n_fX5_lengthRepeating_76]
    refine Hx.ce (sm_le (by omega) (by omega)) (fun _ => ?_) (fun q => absurd q (by omega))
    have hk := hk σ (cW.rf hp)
    rw [Nat.mod_eq_of_lt (by omega)] at hk
    exact hk hL
  | succ j ih =>
    intro n i r σ hn hi hr hp hx hL hC hk
    obtain ⟨n, rfl⟩ : ∃ j, n = j + 1 := ⟨n - 1, by omega⟩
    have e9 : gF σ 9 9 (x + 18) = some (x + 37) := hx.gf 9 9 18 37 (by decide) (by decide)
    have e11 : gF σ 9 11 (x + 18) = some (x + 41) := hx.gf 9 11 18 41 (by decide) (by decide)
    have c37 : ckK σ 8 (x + 37) = some () := hx.ck 37 8 (by decide)
    rw [n_fX5_lengthRepeating_76]
    refine Hx.ce (sm_le (by omega) (by omega)) (fun q => absurd q (by omega)) (fun _ => ?_)
    rw [e9]
    refine hx_bs ?_
    rw [e11]
    refine hx_bs ?_
    rw [c37]
    refine hx_bs ?_
    rw [cn_against hL hC]
    have hcb := cmp3_b r c
    refine hx_cs (Hx.ce (show (iz (cmp3 r c) < nI 0) = (cmp3 r c < 0) by rw [show nI 0 = iz 0 from rfl, iz_lt (by omega) (by omega) (by omega) (by omega)]) (fun q => ?_) (fun q => ?_))
    · rw [cmp3_lt] at q
      have hk := hk σ (cW.rf hp)
      rw [Nat.mod_eq_of_lt q] at hk
      exact hk hL
    · rw [cmp3_lt] at q
      rw [e9]
      refine hx_bs ?_
      rw [e11]
      refine hx_bs ?_
      rw [c37]
      refine hx_bs ?_
      refine Hx.bd (cw_minus hp hL hC (by omega) (by omega)) (fun σ1 _ g => ?_)
      obtain ⟨hF, hL1⟩ := g
      refine hx_nm ?_
      rw [sm_add]
      rw [Nat.succ_mul] at hr
      refine ih n (i + 1) (r - c) σ1 (by omega) (by omega) (by omega) hF.hp (hx.kW hF) hL1 (hC.kW hF (by simp only [s1]; omega)) (fun σ' hF2 hL2 => ?_)
      rw [← mod_unf (by omega)] at hL2
      exact hk σ' (hF.tr0 hF2 (fun _ _ h => h)) hL2
theorem cl_rep {x c M : Nat} (hc : 1 < c ∧ c < dig30) (hM : M ≤ 1000) : ∀ (j n k p : Nat) (σ : St), j < n → k + j = M + 1 → p < c → HP (PX x) σ → XS σ x → Nt σ (x + 37) p → Nt σ (x + 41) c → Hx (fX5_lengthRepeating_59 n σ (x + 18) (nI M) (nI k)) (fun σ' v => v = iz (rpf c j k p) ∧ cW x (s1 (x + 37)) 0 0 σ σ') := by
  intro j
  induction j with
  | zero =>
    intro n k p σ hn hk hp hP hx hL hC
    obtain ⟨n, rfl⟩ : ∃ j, n = j + 1 := ⟨n - 1, by omega⟩
    rw [n_fX5_lengthRepeating_59]
    refine Hx.ce (sm_lt (by omega) (by omega)) (fun _ => Hx.ret ⟨rfl, cW.rf hP⟩) (fun q => absurd q (by omega))
  | succ j ih =>
    intro n k p σ hn hk hp hP hx hL hC
    obtain ⟨n, rfl⟩ : ∃ j, n = j + 1 := ⟨n - 1, by omega⟩
    have e9 : gF σ 9 9 (x + 18) = some (x + 37) := hx.gf 9 9 18 37 (by decide) (by decide)
    have c37 : ckK σ 8 (x + 37) = some () := hx.ck 37 8 (by decide)
    rw [n_fX5_lengthRepeating_59]
    refine Hx.ce (sm_lt (by omega) (by omega)) (fun q => absurd q (by omega)) (fun _ => ?_)
    rw [e9]
    refine hx_bs ?_
    rw [c37]
    refine hx_bs ?_
    refine Hx.bd (cw_raise (c := 10) (d := 0) hP hL (by omega) (by omega) (by omega) (lt_bp (Nat.lt_trans (Nat.lt_trans hp hc.2) dig30_bp) (by omega)) (Or.inl (by simp))) (fun σ1 _ g => ?_)
    obtain ⟨hF1, hL1⟩ := g
    rw [Nat.add_zero] at hL1
    have hx1 := hx.kW hF1
    refine cl_nine (c := c) (by omega) 9 FU 0 (p * 10) σ1 (by unfold FU; omega) (by omega) (by omega) hF1.hp hx1 hL1 (hC.kW hF1 (by simp only [s1]; omega)) (fun σ2 hF2 hL2 => ?_)
    have hx2 := hx1.kW hF2
    have hF12 := hF1.tr0 hF2 (fun _ _ h => h)
    rw [n_fX5_lengthRepeating_113, show gF σ2 9 9 (x + 18) = some (x + 37) from hx2.gf 9 9 18 37 (by decide) (by decide)]
    refine hx_bs ?_
    rw [show ckK σ2 8 (x + 37) = some () from hx2.ck 37 8 (by decide)]
    refine hx_bs ?_
    rw [cn_isOne hL2]
    have hrp : rpf c (j + 1) k p = if p * 10 % c = 1 then (k : Int) else rpf c j (k + 1) (p * 10 % c) := rfl
    refine hx_cs (Hx.ce nb0 (fun q => ?_) (fun q => ?_))
    · rw [hrp, if_neg q]
      refine hx_nm ?_
      rw [sm_add]
      refine (ih n (k + 1) (p * 10 % c) σ2 (by omega) (by omega) (Nat.mod_lt _ (by omega)) hF12.hp hx2 hL2 (hC.kW hF12 (by simp only [s1]; omega))).mo (fun σ3 v g => ⟨g.1, hF12.tr0 g.2 (fun _ _ h => h)⟩)
    · rw [hrp, if_pos (Classical.not_not.mp q)]
      exact Hx.ret ⟨sm_iz _, hF12⟩
theorem cx_lengthRepeating {x c M : Nat} {σ : St} (hP : HP (PX x) σ) (hx : XS σ x) (hC : Nt σ (x + 41) c) (hc : 0 < c ∧ c < dig30) (hM : 1 ≤ M ∧ M ≤ 1000) : Hx (fX5_lengthRepeating σ (x + 18) (nI M)) (fun σ' v => v = iz (if c = 1 then 0 else rpf c M 1 1) ∧ cW x (s1 (x + 37)) 0 0 σ σ') := by
  have e11 : gF σ 9 11 (x + 18) = some (x + 41) := hx.gf 9 11 18 41 (by decide) (by decide)
  have c41 : ckK σ 8 (x + 41) = some () := hx.ck 41 8 (by decide)
  rw [n_fX5_lengthRepeating, e11]
  refine hx_bs ?_
  rw [c41]
  refine hx_bs ?_
  rw [cn_isOne hC]
  refine hx_cs (Hx.ce nb0 (fun q => ?_) (fun q => ?_))
  · have hc1 : 1 < c := by
      have : c ≠ 1 := q
      omega
    rw [if_neg q]
    have h49 : Hx (fX5_lengthRepeating_49 σ (x + 18) (nI M)) (fun σ' v => v = iz (rpf c M 1 1) ∧ cW x (s1 (x + 37)) 0 0 σ σ') := by
      obtain ⟨z, hZ⟩ := hP.2 (x + 37) (by simp)
      rw [n_fX5_lengthRepeating_49, show gF σ 9 9 (x + 18) = some (x + 37) from hx.gf 9 9 18 37 (by decide) (by decide)]
      refine hx_bs ?_
      rw [show ckK σ 8 (x + 37) = some () from hx.ck 37 8 (by decide)]
      refine hx_bs ?_
      refine Hx.bd (cw_setSmall (v := 1) hP hZ (by omega)) (fun σ1 _ g => ?_)
      obtain ⟨hF1, hL1⟩ := g
      exact (cl_rep ⟨hc1, hc.2⟩ hM.2 M FU 1 1 σ1 (by unfold FU; omega) (by omega) hc1 hF1.hp (hx.kW hF1) hL1 (hC.kW hF1 (by simp only [s1]; omega))).mo (fun σ2 v g => ⟨g.1, hF1.tr0 g.2 (fun _ _ h => h)⟩)
    rw [e11]
    refine hx_bs ?_
    rw [c41]
    refine hx_bs ?_
    rw [cn_isLong hC]
    refine hx_cs (Hx.ce nb0 (fun _ => h49) (fun q2 => ?_))
    have q2 := Classical.not_not.mp q2
    rw [e11]
    refine hx_bs ?_
    rw [c41]
    refine hx_bs ?_
    rw [cn_asLong hC q2]
    refine hx_cs (Hx.cs (fun _ => h49) (fun q3 => ?_))
    have q4 : c < 100000000000000000 := by
      apply Nat.lt_of_not_le
      intro q4
      apply q3
      rw [jm_cmp (by omega) (by omega)]
      by_cases c5 : 100000000000000000 < c
      · rw [if_pos c5]; decide
      · rw [if_neg c5, if_pos (show c = 100000000000000000 by omega)]; decide
    rw [e11]
    refine hx_bs ?_
    rw [c41]
    refine hx_bs ?_
    rw [cn_asLong hC q2]
    refine hx_cs ?_
    rw [hx.ck 18 10 (by decide)]
    refine hx_bs ?_
    rw [n_fX5_lengthRepeating_, cl_long ⟨hc1, q4⟩ hM.2 M FU 1 1 σ (by unfold FU; omega) (by omega) (by omega)]
    exact hx_cs (Hx.ret ⟨rfl, cW.rf hP⟩)
  · rw [if_pos (Classical.not_not.mp q)]
    exact Hx.ret ⟨rfl, cW.rf hP⟩
theorem rpf_1 (c : Nat) : rpf c 1 1 1 ≠ 0 := by
  show (if 1 * 10 % c = 1 then ((1 : Nat) : Int) else -1) ≠ 0
  split <;> decide
theorem iz_nz {z : Int} (h : -2147483648 ≤ z ∧ z < 2147483648) : (iz z = nI 0) = (z = 0) := by
  rw [show nI 0 = iz 0 from rfl]
  exact propext ⟨fun q => by
    have := congrArg Int32.toInt q
    rw [iz_toInt (by omega) (by omega), iz_toInt (by omega) (by omega)] at this
    exact this, fun q => by rw [q]⟩
theorem rpf_bd (c : Nat) : ∀ (j k p : Nat), k + j ≤ 2000 → -1 ≤ rpf c j k p ∧ rpf c j k p ≤ 2000 := by
  intro j
  induction j with
  | zero => intro k p _; exact ⟨by show (-1 : Int) ≤ -1; omega, by show (-1 : Int) ≤ 2000; omega⟩
  | succ j ih =>
    intro k p h
    have hrp : rpf c (j + 1) k p = if p * 10 % c = 1 then (k : Int) else rpf c j (k + 1) (p * 10 % c) := rfl
    rw [hrp]
    split
    · omega
    · exact ih (k + 1) _ (by omega)
theorem ki_lens {σ : St} {x o M : Nat} {s : Kst} {P : St → Int32 → Prop} {K : St → Int32 → Option (St × Int32)} (h : KI σ x o s) (hM : 1 ≤ M ∧ M ≤ 1000) (hk : ∀ σ', KI σ' x o s → cO x 0 0 σ σ' → Hx (K σ' (iz (if cory s.2.2.2.1.2.2 = 1 then 0 else rpf (cory s.2.2.2.1.2.2) M 1 1))) P) : Hx (Option.bind (gF σ 15 16 x) fun v1 => Option.bind (gF σ 15 8 x) fun v2 => Option.bind (ckK σ 10 v1) fun _ => cb (fX5_lengthAhead σ v1 v2) fun σ3 _ => Option.bind (gF σ3 15 16 x) fun v6 => Option.bind (ckK σ3 10 v6) fun _ => cb (fX5_lengthRepeating σ3 v6 (nI M)) fun σ7 v8 => K σ7 v8) P := by
  obtain ⟨hp, hx, _, _, hQ⟩ := id h.1
  have hA := h.2.2.1.1
  have hq : qok s.2.2.2.1 := hA.2.2.1
  have hd : 0 < s.2.2.2.1.2.2 ∧ s.2.2.2.1.2.2 < dig30 := ⟨hq.2.2.1, hq.2.2.2.2.2⟩
  have hb := twoy_b hd
  rw [show gF σ 15 16 x = some (x + 18) from hx.gf 15 16 0 18 (by decide) (by decide)]
  refine hx_bs ?_
  rw [sm_gF (show sK σ x = 15 + 1 from hx.k0)]
  refine hx_bs ?_
  rw [hx.ck 18 10 (by decide)]
  refine hx_bs ?_
  refine Hx.bd (cx_lengthAhead hp hx hA.2.2.2 hd) (fun σ1 _ g => ?_)
  obtain ⟨_, hF1, hC1⟩ := g
  have hx1 := hx.kW hF1
  rw [show gF σ1 15 16 x = some (x + 18) from hx1.gf 15 16 0 18 (by decide) (by decide)]
  refine hx_bs ?_
  rw [hx1.ck 18 10 (by decide)]
  refine hx_bs ?_
  refine Hx.bd (cx_lengthRepeating hF1.hp hx1 hC1 ⟨hb.2.1, hb.2.2.1⟩ hM) (fun σ2 v g => ?_)
  obtain ⟨rfl, hF2⟩ := g
  have hF12 : cW x (s2 (x + 41) (x + 37)) 0 0 σ σ2 := (hF1.mo (fun r _ hr => Or.inl hr) (Nat.le_refl _) (Nat.le_refl _)).tr0 hF2 (fun r _ hr => Or.inr hr)
  obtain ⟨hK, hO⟩ := h.lowr hF12 (fun r hr => by simp only [s2] at hr; omega)
  exact hk σ2 hK hO
theorem ki_repeating {σ : St} {x o : Nat} {s : Kst} (h : KI σ x o s) : Hx (fX11_repeating σ x) (KV x 0 0 s (rpt (cory s.2.2.2.1.2.2)) σ) := by
  rw [n_fX11_repeating]
  exact ki_lens h (by omega) (fun σ' hK hO => Hx.ret ⟨rfl, ⟨o, hK⟩, hO⟩)
theorem ki_ends {σ : St} {x o : Nat} {s : Kst} (h : KI σ x o s) : Hx (fX11_ends σ x) (KV x 0 0 s (if cory s.2.2.2.1.2.2 = 1 then 1 else 0) σ) := by
  rw [n_fX11_ends]
  refine ki_lens h (by omega) (fun σ' hK hO => ?_)
  by_cases c : cory s.2.2.2.1.2.2 = 1
  · rw [if_pos c, if_pos c, if_pos (show iz 0 = nI 0 from rfl)]
    exact Hx.ret ⟨rfl, ⟨o, hK⟩, hO⟩
  · rw [if_neg c, if_neg c]
    have hb := rpf_bd (cory s.2.2.2.1.2.2) 1 1 1 (by omega)
    rw [if_neg (by rw [iz_nz (by omega)]; exact rpf_1 _)]
    exact Hx.ret ⟨rfl, ⟨o, hK⟩, hO⟩
theorem ki_ahead {σ : St} {x o : Nat} {s : Kst} (h : KI σ x o s) : Hx (fX11_ahead σ x) (KV x 0 0 s (ahl s.2.2.2.1.2.2) σ) := by
  obtain ⟨hp, hx, _, _, hQ⟩ := id h.1
  have hA := h.2.2.1.1
  have hq : qok s.2.2.2.1 := hA.2.2.1
  have hd : 0 < s.2.2.2.1.2.2 ∧ s.2.2.2.1.2.2 < dig30 := ⟨hq.2.2.1, hq.2.2.2.2.2⟩
  rw [n_fX11_ahead, show gF σ 15 16 x = some (x + 18) from hx.gf 15 16 0 18 (by decide) (by decide)]
  refine hx_bs ?_
  rw [sm_gF (show sK σ x = 15 + 1 from hx.k0)]
  refine hx_bs ?_
  rw [hx.ck 18 10 (by decide)]
  refine hx_bs ?_
  refine Hx.bd (cx_lengthAhead hp hx hA.2.2.2 hd) (fun σ1 v g => ?_)
  obtain ⟨rfl, hF1, _⟩ := g
  obtain ⟨hK, hO⟩ := h.lowr hF1 (fun r hr => by simp only [s1] at hr; omega)
  exact Hx.ret ⟨sm_iz _, ⟨o, hK⟩, hO⟩
