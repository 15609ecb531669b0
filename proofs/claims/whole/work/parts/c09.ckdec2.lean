/-! ===== calls of the one that was built: decimal ===== -/
theorem rsf_p {d : Nat} : ∀ (k r : Nat), r < d → rsf d k r = r * 10 ^ k % d
  | 0, r, h => by rw [Nat.pow_zero, Nat.mul_one, Nat.mod_eq_of_lt h]; rfl
  | k + 1, r, h => by
    show rsf d k (r * 10 % d) = _
    rw [rsf_p k _ (Nat.mod_lt _ (by omega)), Nat.pow_succ, Nat.mod_mul_mod]
    congr 1
    rw [Nat.mul_assoc, Nat.mul_comm 10]
theorem rsf_add (d : Nat) : ∀ (a b r : Nat), rsf d (a + b) r = rsf d b (rsf d a r)
  | 0, b, r => by rw [Nat.zero_add]; rfl
  | a + 1, b, r => by
    rw [show a + 1 + b = a + b + 1 by omega]
    exact rsf_add d a b (r * 10 % d)
theorem dcm_p {d r k : Nat} (hr : r < d) : r * 10 ^ (k + 1) / d % 10 = dcm d r k := by
  unfold dcm
  rw [rsf_p k r hr, Nat.pow_succ, ← Nat.mul_assoc]
  have hd : 0 < d := by omega
  have hm := Nat.mod_lt (r * 10 ^ k) hd
  have e := Nat.div_add_mod (r * 10 ^ k) d
  generalize r * 10 ^ k / d = q at *
  generalize r * 10 ^ k % d = s at *
  rw [← e, Nat.add_mul, Nat.mul_assoc, Nat.add_comm, Nat.add_mul_div_left _ _ hd, Nat.mul_comm q, Nat.add_mul_mod_self_left]
  exact Nat.mod_eq_of_lt (Nat.div_lt_of_lt_mul (by omega))
theorem sm_ld5 {σ : St} {a j : Nat} (hk : sK σ a = 150) (hj : j < sN σ a) (h2 : j < 2147483648) : ldI σ a (nI j) = some (sA σ a j) := by
  unfold ldI
  rw [if_pos ⟨Or.inr hk, sm_inb hj h2⟩, sm_clamp h2]
theorem cx_nextDecimals {x a n d r k : Nat} {s : Int} {σ : St} (hp : HP (PX x) σ) (hx : XS σ x) (hT : KTn σ x) (hA : FX σ a s n d) (ha : x + 84 < a ∨ a = x + 3) (hd : 0 < d ∧ d < dig30) (hr : r < d) (hk : k ≤ 9) (hR : Nt σ (x + 43) r) : Hx (fX5_nextDecimals σ (x + 18) a (nI k)) (fun σ' v => v = nI (r * 10 ^ k / d) ∧ cW x (s3 (x + 43) (x + 19) (x + 21)) 0 0 σ σ' ∧ Nt σ' (x + 43) (r * 10 ^ k % d)) := by
  obtain ⟨tn, t1, t2, t3, t4, t5⟩ := hT
  obtain ⟨fsA, _, _, hD⟩ := hA
  have hp10 : 10 ^ k ≤ 10 ^ 9 := Nat.pow_le_pow_right (by omega) hk
  have hp1 : 0 < 10 ^ k := Nat.pow_pos (by omega)
  rw [n_fX5_nextDecimals]
  refine Hx.ce (sm_lt (by omega) (by omega)) (fun c => absurd c (by omega)) (fun _ => ?_)
  rw [t1, show aln σ tn = some (nI 10) by unfold aln; rw [if_pos (Or.inr t3), t4]]
  refine hx_bs (Hx.ce (sm_lt (by omega) (by omega)) (fun _ => ?_) (fun c => absurd c (by omega)))
  rw [show gF σ 9 12 (x + 18) = some (x + 43) from hx.gf 9 12 18 43 (by decide) (by decide)]
  refine hx_bs ?_
  rw [sm_ld5 t3 (by omega) (by omega), t5 k (by omega)]
  refine hx_bs ?_
  rw [show ckK σ 8 (x + 43) = some () from hx.ck 43 8 (by decide)]
  refine hx_bs ?_
  have hr5 : sml r 4 := Nat.lt_trans (Nat.lt_trans hr hd.2) dig30_bp
  refine Hx.bd (cw_raise (c := 10 ^ k) (d := 0) hp hR hp1 (by omega) (by omega) (lt_bp hr5 (by omega)) (Or.inl (by simp))) (fun σ1 _ g => ?_)
  obtain ⟨hF1, hR1⟩ := g
  rw [Nat.add_zero] at hR1
  have hx1 := hx.kW hF1
  have fs1 := fsA.kW hF1
  have hD1 := hD.kW hF1 (by simp only [s1]; omega)
  have hu : sml (r * 10 ^ k) 900 := lt_bp (bp_mul hr5 (show sml (10 ^ k) 2 from Nat.lt_of_le_of_lt hp10 (by omega))) (by omega)
  rw [show gF σ1 9 12 (x + 18) = some (x + 43) from hx1.gf 9 12 18 43 (by decide) (by decide)]
  refine hx_bs ?_
  rw [(sm_gF (ci := 5) fs1.1).trans (congrArg some fs1.2.1.2)]
  refine hx_bs ?_
  rw [show gF σ1 9 0 (x + 18) = some (x + 19) from hx1.gf 9 0 18 19 (by decide) (by decide)]
  refine hx_bs ?_
  refine hx_bs ?_
  rw [hx1.ck 18 10 (by decide)]
  refine hx_bs ?_
  refine Hx.bd (cw_divide hF1.hp hx1 hR1 hD1 (show x + 19 ∈ PX x by simp) (show x + 43 ∈ PX x by simp) hu (by omega)) (fun σ2 _ g => ?_)
  obtain ⟨hF2, hQ2, hR2⟩ := g
  have hx2 := hx1.kW hF2
  rw [show gF σ2 9 0 (x + 18) = some (x + 19) from hx2.gf 9 0 18 19 (by decide) (by decide)]
  refine hx_bs ?_
  rw [show ckK σ2 8 (x + 19) = some () from hx2.ck 19 8 (by decide)]
  refine hx_bs ?_
  rw [cn_limb hQ2 (by omega)]
  have hq : r * 10 ^ k / d < 10 ^ k := by
    refine Nat.div_lt_of_lt_mul ?_
    exact Nat.mul_lt_mul_of_pos_right hr hp1
  refine hx_cs (Hx.ret ⟨?_, (hF1.mo (S' := s3 (x + 43) (x + 19) (x + 21)) (fun r _ hr => Or.inl hr) (Nat.le_refl _) (Nat.le_refl _)).tr0 hF2 (fun r _ hr => by simp only [s3] at hr ⊢; omega), hR2⟩)
  congr 1
  unfold bq
  rw [Nat.pow_zero, Nat.div_one]
  exact Nat.mod_eq_of_lt (Nat.lt_of_lt_of_le hq hp10)
theorem cl_dec {x o : Nat} {s : Kst} : ∀ (n L r : Nat) (v : Int32) (σ : St), L ≤ 1000 → 1 ≤ L → L < n → KI σ x o s → Nt σ (x + 43) r → r < s.2.2.2.1.2.2 → Hx (fX11_decimal_36 n σ x v (nI L)) (fun σ' w => w = .inr (nI (dcm s.2.2.2.1.2.2 r (L - 1))) ∧ cW x (s3 (x + 43) (x + 19) (x + 21)) 0 0 σ σ') := by
  intro n
  induction n with
  | zero => intro L r v σ _ _ h; omega
  | succ n ih =>
    intro L r v σ hL hL1 hn h hR hr
    obtain ⟨hp, hx, _, hT, hQ⟩ := id h.1
    have hA := h.2.2.1.1
    have hq : qok s.2.2.2.1 := hA.2.2.1
    have hd : 0 < s.2.2.2.1.2.2 ∧ s.2.2.2.1.2.2 < dig30 := ⟨hq.2.2.1, hq.2.2.2.2.2⟩
    generalize hdd : s.2.2.2.1.2.2 = d at *
    have hF := hA.2.2.2
    rw [hdd] at hF
    rw [n_fX11_decimal_36]
    refine Hx.ce (sm_le (by omega) (by omega)) (fun c => absurd c (by omega)) (fun _ => ?_)
    rw [show gF σ 15 16 x = some (x + 18) from hx.gf 15 16 0 18 (by decide) (by decide)]
    refine hx_bs ?_
    rw [sm_gF (show sK σ x = 15 + 1 from hx.k0)]
    refine hx_bs ?_
    rw [hx.ck 18 10 (by decide)]
    refine hx_bs ?_
    have em : (if nI 9 < nI L then nI 9 else nI L) = nI (if 9 < L then 9 else L) := by
      have e := sm_lt (a := 9) (b := L) (by omega) (by omega)
      by_cases c : 9 < L
      · rw [if_pos c, if_pos (by rw [e]; exact c)]
      · rw [if_neg c, if_neg (by rw [e]; exact c)]
    rw [em]
    refine Hx.bd (cx_nextDecimals hp hx hT hF hA.1 hd hr (by split <;> omega) hR) (fun σ1 w g => ?_)
    obtain ⟨rfl, hF1, hR1⟩ := g
    generalize hk : (if 9 < L then 9 else L) = k at *
    have hk9 : k ≤ 9 := by rw [← hk]; split <;> omega
    have hp10 : 10 ^ k ≤ 10 ^ 9 := Nat.pow_le_pow_right (by omega) hk9
    have hqk : r * 10 ^ k / d < 10 ^ k := Nat.div_lt_of_lt_mul (Nat.mul_lt_mul_of_pos_right hr (Nat.pow_pos (by omega)))
    rw [sm_div (by omega) (by omega) (by omega), sm_mul, sm_sub (by omega)]
    refine hx_nm (hx_nm ?_)
    have ev : r * 10 ^ k / d - r * 10 ^ k / d / 10 * 10 = r * 10 ^ k / d % 10 := by omega
    rw [ev]
    by_cases c : 9 < L
    · have e9 : k = 9 := by rw [← hk, if_pos c]
      subst e9
      have eL : nI L + iz (-9) = nI (L - 9) := by
        rw [sm_iz, iz_add, sm_iz]
        congr 1
        omega
      rw [eL]
      obtain ⟨h1, _⟩ := h.lowr hF1 (fun r hr => by simp only [s3] at hr; omega)
      refine (ih (L - 9) _ _ σ1 (by omega) (by omega) (by omega) h1 hR1 (Nat.mod_lt _ hd.1)).mo (fun σ2 w g => ⟨?_, hF1.tr0 g.2 (fun _ _ h => h)⟩)
      rw [g.1]
      congr 2
      unfold dcm
      rw [← rsf_p 9 r hr, ← rsf_add, show 9 + (L - 9 - 1) = L - 1 by omega]
    · have e9 : k = L := by rw [← hk, if_neg c]
      subst e9
      have eL : nI k + iz (-9) = iz ((k : Int) - 9) := by
        rw [sm_iz, iz_add]
        congr 1
      obtain ⟨n, rfl⟩ : ∃ j, n = j + 1 := ⟨n - 1, by omega⟩
      rw [eL, n_fX11_decimal_36, if_pos (by rw [show nI 0 = iz 0 from rfl, iz_le (by omega) (by omega) (by omega) (by omega)]; omega)]
      refine Hx.ret ⟨?_, hF1⟩
      congr 2
      obtain ⟨j, rfl⟩ : ∃ j, k = j + 1 := ⟨k - 1, by omega⟩
      exact dcm_p hr
theorem cx_startDecimals {x a n d : Nat} {s : Int} {σ : St} (hp : HP (PX x) σ) (hx : XS σ x) (hA : FX σ a s n d) (ha : x + 84 < a ∨ a = x + 3) (hn : n < dig30) : Hx (fX5_startDecimals σ (x + 18) a) (fun σ' v => v = x + 33 ∧ cW x (s3 (x + 33) (x + 43) (x + 21)) 0 0 σ σ' ∧ Nt σ' (x + 33) (n / d) ∧ Nt σ' (x + 43) (n % d)) := by
  obtain ⟨fsA, _, hN, hD⟩ := hA
  rw [n_fX5_startDecimals, (sm_gF (ci := 5) fsA.1).trans (congrArg some fsA.2.1.1)]
  refine hx_bs ?_
  rw [(sm_gF (ci := 5) fsA.1).trans (congrArg some fsA.2.1.2)]
  refine hx_bs ?_
  rw [show gF σ 9 7 (x + 18) = some (x + 33) from hx.gf 9 7 18 33 (by decide) (by decide)]
  refine hx_bs ?_
  rw [show gF σ 9 12 (x + 18) = some (x + 43) from hx.gf 9 12 18 43 (by decide) (by decide)]
  refine hx_bs ?_
  rw [hx.ck 18 10 (by decide)]
  refine hx_bs ?_
  refine Hx.bd (cw_divide hp hx hN hD (show x + 33 ∈ PX x by simp) (show x + 43 ∈ PX x by simp) (lt_bp (Nat.lt_trans hn dig30_bp) (by omega)) (by omega)) (fun σ1 _ g => ?_)
  obtain ⟨hF1, hQ1, hR1⟩ := g
  rw [show gF σ1 9 7 (x + 18) = some (x + 33) from (hx.kW hF1).gf 9 7 18 33 (by decide) (by decide)]
  exact hx_bs (Hx.ret ⟨rfl, hF1, hQ1, hR1⟩)
theorem ki_decimal {σ : St} {x o : Nat} {s : Kst} {z : Int} (hz : -2147483648 ≤ z ∧ z < 2147483648) (h : KI σ x o s) : Hx (fX11_decimal σ x (iz z)) (KO x 0 0 s (if 1 ≤ z ∧ z ≤ 1000 then none else some "java/lang/IllegalArgumentException") (dcm s.2.2.2.1.2.2 (s.2.2.2.1.2.1 % s.2.2.2.1.2.2) (z.toNat - 1) : Nat) σ) := by
  obtain ⟨hp, hx, _, hT, hQ⟩ := id h.1
  have hA := h.2.2.1.1
  have hq : qok s.2.2.2.1 := hA.2.2.1
  rw [n_fX11_decimal]
  refine Hx.ce (show (iz z < nI 1) = (z < 1) by rw [show nI 1 = iz 1 from rfl, iz_lt (by omega) (by omega) (by omega) (by omega)]) (fun c => ?_) (fun c => ?_)
  · rw [n_fX11_decimal_12, show (if 1 ≤ z ∧ z ≤ 1000 then none else some "java/lang/IllegalArgumentException") = some "java/lang/IllegalArgumentException" from if_neg (by omega)]
    exact Hx.ret (KO.bad h)
  · refine Hx.ce (show (iz z ≤ nI 1000) = (z ≤ 1000) by rw [show nI 1000 = iz 1000 from rfl, iz_le (by omega) (by omega) (by omega) (by omega)]) (fun c2 => ?_) (fun c2 => ?_)
    · rw [show (if 1 ≤ z ∧ z ≤ 1000 then none else some "java/lang/IllegalArgumentException") = none from if_pos (by omega)]
      obtain ⟨L, rfl⟩ := Int.eq_ofNat_of_zero_le (show 0 ≤ z by omega)
      rw [show gF σ 15 16 x = some (x + 18) from hx.gf 15 16 0 18 (by decide) (by decide)]
      refine hx_bs ?_
      rw [sm_gF (show sK σ x = 15 + 1 from hx.k0)]
      refine hx_bs ?_
      rw [hx.ck 18 10 (by decide)]
      refine hx_bs ?_
      refine Hx.bd (cx_startDecimals hp hx hA.2.2.2 hA.1 hq.2.2.2.2.1) (fun σ1 _ g => ?_)
      obtain ⟨_, hF1, _, hR1⟩ := g
      obtain ⟨h1, _⟩ := h.lowr hF1 (fun r hr => by simp only [s3] at hr; omega)
      rw [← sm_iz]
      refine (cl_dec FU L _ (nI 0) σ1 (by omega) (by omega) (by unfold FU; omega) h1 hR1 (Nat.mod_lt _ hq.2.2.1)).mo (fun σ2 w g => ?_)
      obtain ⟨rfl, hF2⟩ := g
      have hF : cW x (fun r => s3 (x + 33) (x + 43) (x + 21) r ∨ s3 (x + 43) (x + 19) (x + 21) r) 0 0 σ σ2 := (hF1.mo (fun r _ hr => Or.inl hr) (Nat.le_refl _) (Nat.le_refl _)).tr0 hF2 (fun r _ hr => Or.inr hr)
      obtain ⟨hK, hO⟩ := h.lowr hF (fun r hr => by simp only [s3] at hr; omega)
      exact ⟨by rw [sm_iz]; rfl, ⟨o, hK⟩, hO⟩
    · rw [n_fX11_decimal_12, show (if 1 ≤ z ∧ z ≤ 1000 then none else some "java/lang/IllegalArgumentException") = some "java/lang/IllegalArgumentException" from if_neg (by omega)]
      exact Hx.ret (KO.bad h)
