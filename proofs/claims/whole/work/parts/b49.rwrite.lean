/-! ===== the reference: decimals and writing ===== -/
/-- what is left behind k decimals -/
def rsf (d : Nat) : Nat → Nat → Nat
  | 0, r => r
  | k + 1, r => rsf d k (r * 10 % d)
theorem rsf_s (d : Nat) : ∀ (k r : Nat), rsf d (k + 1) r = rsf d k r * 10 % d
  | 0, _ => rfl
  | k + 1, r => rsf_s d k (r * 10 % d)
theorem rsf_lt {d : Nat} (hd : 0 < d) : ∀ (k r : Nat), r < d → rsf d k r < d
  | 0, _, h => h
  | k + 1, r, _ => rsf_lt hd k _ (Nat.mod_lt _ hd)
/-- the decimal behind k others -/
def dcm (d r k : Nat) : Nat := rsf d k r * 10 / d
theorem dcm_lt {d r k : Nat} (hd : 0 < d) (hr : r < d) : dcm d r k < 10 := by
  have := rsf_lt hd k r hr
  unfold dcm
  exact Nat.div_lt_of_lt_mul (by omega)
theorem rf_nextDecimal {σ : St} {m d r : Nat} (hm : MS σ m) (hA : Rv σ m 13 r) (hB : Rv σ m 1 d) (hr : r < d) (hd : d < dig30) : ∃ σ', fX12_nextDecimal σ m = some (σ', nI (r * 10 / d)) ∧ rfR m [9, 10, 11, 13] σ σ' ∧ Rv σ' m 13 (r * 10 % d) := by
  have hd8 := dig30_lt
  have h0 : 0 < d := by omega
  obtain ⟨σ1, e1, r1, v1⟩ := rf_times (t := 13) (c := 10) (u := 8) hm (by omega) (by omega) (by omega) (by omega) hA
  have m1 := r1.ms hm
  have hp9 : r * 10 < 10000 ^ 9 := by
    have : 10000 ^ 9 = 10000 ^ 8 * 10000 := rfl
    omega
  obtain ⟨σ2, e2, r2, v2, v3⟩ := rf_divides (a := 13) (b := 1) (u := 9) m1 (by omega) (by omega) (by omega) (by omega) (by omega) hp9 h0 v1 (hB.keep r1 (by decide))
  have m2 := r2.ms m1
  obtain ⟨σ3, e3, r3, v4⟩ := rf_copies (t := 13) (f := 10) m2 (by omega) (by omega) (by omega) v3
  have m3 := r3.ms m2
  have r13 : rfR m [9, 10, 11, 13] σ σ3 := (r1.mo (by decide)).tr ((r2.mo (by decide)).tr (r3.mo (by decide)))
  have hq : r * 10 / d < 10 := Nat.div_lt_of_lt_mul (by omega)
  refine ⟨σ3, hx_eq ?_, r13, v4⟩
  rw [n_fX12_nextDecimal, rf_ck hm]
  refine hx_bs ?_
  rw [e1]
  refine hx_cs ?_
  rw [rf_ck m1]
  refine hx_bs ?_
  rw [e2]
  refine hx_cs ?_
  rw [rf_ck m2]
  refine hx_bs ?_
  rw [e3]
  refine hx_cs ?_
  rw [rf_ck m3]
  refine hx_bs ?_
  rw [rf_limb m3 (by omega) (by omega) (v2.keep r3 (by decide)), dq_0, Nat.mod_eq_of_lt (by omega)]
  exact hx_cs (Hx.ret ⟨rfl, rfl⟩)
theorem rf_dec_61 {m d N : Nat} (hN : N ≤ 1000) (hd : 0 < d ∧ d < dig30) : ∀ (n k r v : Nat) (σ : St), N - k < n → k ≤ N → r < d → MS σ m → Rv σ m 13 r → Rv σ m 1 d → Hx (fX12_decimal_61 n σ m (nI N) (nI v) (nI k)) (fun σ' u => u = nI (if k = N then v else dcm d r (N - k - 1)) ∧ rfR m [9, 10, 11, 13] σ σ') := by
  intro n
  induction n with
  | zero => intro k r v σ h; omega
  | succ n ih =>
    intro k r v σ hn hk hr hm hA hB
    rw [n_fX12_decimal_61]
    refine Hx.ce (sm_le (by omega) (by omega)) (fun c => ?_) (fun c => ?_)
    · rw [if_pos (by omega)]
      exact Hx.ret ⟨rfl, rfR.rf⟩
    · rw [rf_ck hm]
      refine hx_bs ?_
      obtain ⟨σ1, e1, r1, v1⟩ := rf_nextDecimal hm hA hB hr hd.2
      rw [e1]
      refine hx_cs ?_
      refine hx_nm ?_
      rw [sm_add, if_neg (by omega)]
      refine (ih (k + 1) (r * 10 % d) (r * 10 / d) σ1 (by omega) (by omega) (Nat.mod_lt _ hd.1) (r1.ms hm) v1 (hB.keep r1 (by decide))).mo (fun σ2 u g => ⟨?_, r1.tr g.2⟩)
      rw [g.1]
      by_cases c2 : k + 1 = N
      · rw [if_pos c2, show N - k - 1 = 0 by omega]
        rfl
      · rw [if_neg c2, show N - k - 1 = (N - (k + 1) - 1) + 1 by omega]
        rfl
theorem ri_decimal {σ : St} {m : Nat} {c : Rct} {s : Rst} {z : Int} (hz : -2147483648 ≤ z ∧ z < 2147483648) (h : RI σ m c s) : Hx (fX12_decimal σ m (iz z)) (RO m c s (if 1 ≤ z ∧ z ≤ 1000 then 0 else 1) (dcm s.2.2.2.1.2.2 (s.2.2.2.1.2.1 % s.2.2.2.1.2.2) (z.toNat - 1)) s σ) := by
  rw [n_fX12_decimal]
  refine rf_set0 h.1.1 (fun σ1 r1 m1 f0 => ?_)
  have h1 := h.k0 r1
  obtain ⟨ai, a1, a2⟩ := h1.2.1.1
  have hq := a2.2.1
  have hi : ai < 12600 := by have := a2.1; omega
  have hd8 := dig30_lt
  rw [show nI 1 = iz 1 from rfl, show nI 1000 = iz 1000 from rfl, rf_in hz.1 hz.2 (by omega) (by omega) (by omega) (by omega)]
  refine hx_cs ?_
  rw [rf_ck m1]
  refine hx_bs ?_
  rw [show iz 1 = nI 1 from rfl]
  by_cases c1 : 1 ≤ z ∧ z ≤ 1000
  · rw [if_pos c1, rf_fails1 m1 f0]
    refine hx_cs ?_
    refine Hx.ce rfl (fun _ => ?_) (fun z => absurd rfl z)
    obtain ⟨N, rfl⟩ := Int.eq_ofNat_of_zero_le (show 0 ≤ z by omega)
    rw [fi_g m1 a1]
    refine hx_bs ?_
    rw [rf_ck m1]
    refine hx_bs ?_
    obtain ⟨σ2, e2, r2, v2⟩ := rf_loads (r := 0) m1 (by omega) hi a2.2 0 (by omega)
    rw [e2]
    refine hx_cs ?_
    have m2 := r2.ms m1
    rw [fi_g m2 (a1.R r2)]
    refine hx_bs ?_
    rw [rf_ck m2]
    refine hx_bs ?_
    obtain ⟨σ3, e3, r3, v3⟩ := rf_loads (r := 1) m2 (by omega) hi (a2.2.keepM (show rfM m [] [1, 2] nV σ1 σ2 from r2.M) (fun z => z)) 1 (by omega)
    rw [e3]
    refine hx_cs ?_
    have m3 := r3.ms m2
    rw [rf_ck m3]
    refine hx_bs ?_
    have hx8 : s.2.2.2.1.2.1 < 10000 ^ 8 := by have := hq.2.2.2.2.1; omega
    obtain ⟨σ4, e4, r4, v4, v5⟩ := rf_divides (a := 0) (b := 1) (u := 8) m3 (by omega) (by omega) (by omega) (by omega) (by omega) hx8 hq.2.2.1 (v2.keep r3 (by decide)) v3
    rw [e4]
    refine hx_cs ?_
    have m4 := r4.ms m3
    rw [rf_ck m4]
    refine hx_bs ?_
    obtain ⟨σ5, e5, r5, v6⟩ := rf_copies (t := 13) (f := 10) m4 (by omega) (by omega) (by omega) v5
    rw [e5]
    refine hx_cs ?_
    have m5 := r5.ms m4
    have v3' : Rv σ5 m 1 s.2.2.2.1.2.2 := (Rv.keep (x := s.2.2.2.1.2.2) v3 r4 (by decide)).keep r5 (by decide)
    rw [← sm_iz]
    refine (rf_dec_61 (d := s.2.2.2.1.2.2) (N := N) (by omega) ⟨hq.2.2.1, hq.2.2.2.2.2⟩ FU 0 _ 0 σ5 (by unfold FU; omega) (by omega) (Nat.mod_lt _ hq.2.2.1) m5 v6 v3').mo (fun σ6 u g => ?_)
    obtain ⟨g1, g2⟩ := g
    have r16 : rfM m [] [1, 2] nV σ1 σ6 := r2.M.tr (r3.M.tr (r4.M.tr (r5.M.tr g2.M)))
    rw [if_pos c1]
    refine ⟨r1.1.tr r16.1, f0.keep r16 (by decide), fun _ => ?_, c, h1.k12 r16, RBd.rf rfl⟩
    rw [g1, if_neg (by omega), sm_iz, Int.toNat_natCast]
    rfl
  · rw [if_neg c1]
    refine Hx.bd (rf_fails0 m1 f0 (show 0 < 1 by omega) (by omega)) (fun σ5 v g => ?_)
    obtain ⟨rfl, r5, f5⟩ := g
    refine Hx.ce (sm_eq (show 1 < 2147483648 by omega) (by omega)) (fun z => absurd z (by omega)) (fun _ => ?_)
    rw [if_neg c1]
    exact Hx.ret ⟨r1.1.tr r5.1, f5, fun q => (by cases q), c, h1.k0 r5, RBd.rf rfl⟩
/-- the decimals as they are written -/
def dds (d f a : Nat) : Nat → Nat → Nat → List Nat
  | 0, _, _ => if 0 < a then [93] else []
  | n + 1, k, r => (if k = f then [91] else []) ++ [48 + r * 10 / d] ++ dds d f a n (k + 1) (r * 10 % d)
theorem dds_len (d f a : Nat) : ∀ (n k r : Nat), (dds d f a n k r).length ≤ 2 * n + 1
  | 0, _, _ => by
    show (if 0 < a then [93] else []).length ≤ 1
    split
    · exact Nat.le_refl _
    · exact Nat.zero_le _
  | n + 1, k, r => by
    have := dds_len d f a n (k + 1) (r * 10 % d)
    show ((if k = f then [91] else []) ++ [48 + r * 10 / d] ++ dds d f a n (k + 1) (r * 10 % d)).length ≤ _
    rw [List.length_append, List.length_append, List.length_singleton]
    have : (if k = f then [91] else ([] : List Nat)).length ≤ 1 := by split <;> simp
    omega
def wdc (d f a r : Nat) : List Nat := if f + a = 0 then [] else [46] ++ dds d f a (f + a) 0 r
theorem rf_wd_15 {m d f a : Nat} (hfa : f + a ≤ 100) (hd : 0 < d ∧ d < dig30) : ∀ (j n k r : Nat) (D : List Nat) (σ : St), j < n → k + j = f + a → r < d → MS σ m → Rv σ m 13 r → Rv σ m 1 d → RDr σ m D → D.length + 2 * j + 2 ≤ 1200 → Hx (fX12_writesDecimals_15 n σ m (nI f) (nI a) (nI k)) (fun σ' _ => rfM m [77] [1, 2, 42] nV σ σ' ∧ RDr σ' m (D ++ dds d f a j k r)) := by
  intro j
  induction j with
  | zero =>
    intro n k r D σ hn hk hr hm hA hB hD hl
    obtain ⟨n, rfl⟩ : ∃ j, n = j + 1 := ⟨n - 1, by omega⟩
    rw [n_fX12_writesDecimals_15, sm_add]
    refine Hx.ce (sm_le (by omega) (by omega)) (fun _ => ?_) (fun z => absurd z (by omega))
    refine Hx.ce (sm_le (by omega) (by omega)) (fun c => ?_) (fun c => ?_)
    · have e : dds d f a 0 k r = [] := by
        show (if 0 < a then [93] else []) = []
        rw [if_neg (by omega)]
      rw [e, List.append_nil]
      exact Hx.ret ⟨rfM.rf, hD⟩
    · have e : dds d f a 0 k r = [93] := by
        show (if 0 < a then [93] else []) = [93]
        rw [if_pos (by omega)]
      rw [e, rf_ck hm]
      refine hx_bs ?_
      refine Hx.bd (rf_writes hm hD (by omega)) (fun σ2 _ g => ?_)
      exact Hx.ret ⟨g.1.mo ⟨by decide, by decide⟩ (fun _ z => z), g.2⟩
  | succ j ih =>
    intro n k r D σ hn hk hr hm hA hB hD hl
    obtain ⟨n, rfl⟩ : ∃ j, n = j + 1 := ⟨n - 1, by omega⟩
    rw [n_fX12_writesDecimals_15, sm_add]
    refine Hx.ce (sm_le (by omega) (by omega)) (fun z => absurd z (by omega)) (fun _ => ?_)
    have go : ∀ (σ1 : St) (D1 : List Nat), MS σ1 m → rfM m [77] [1, 2, 42] nV σ σ1 → Rv σ1 m 13 r → Rv σ1 m 1 d → RDr σ1 m D1 → D1.length + 2 * j + 3 ≤ 1200 → D1 = D ++ (if k = f then [91] else []) → Hx (fX12_writesDecimals_33 (fX12_writesDecimals_15 n) σ1 m (nI f) (nI a) (nI k)) (fun σ' _ => rfM m [77] [1, 2, 42] nV σ σ' ∧ RDr σ' m (D ++ dds d f a (j + 1) k r)) := by
      intro σ1 D1 m1 r1 A1 B1 hD1 hl1 e1
      rw [n_fX12_writesDecimals_33, rf_ck m1]
      refine hx_bs ?_
      obtain ⟨σ2, e2, r2, v2⟩ := rf_nextDecimal m1 A1 B1 hr hd.2
      rw [e2]
      refine hx_cs ?_
      have r2' : rfM m [77] [1, 2, 42] nV σ1 σ2 := (show rfM m [] [1, 2] nV σ1 σ2 from r2.M).mo ⟨by decide, by decide⟩ (fun _ z => z)
      have m2 := r2.ms m1
      have hD2 : RDr σ2 m D1 := hD1.keep (show rfM m [] [1, 2] nV σ1 σ2 from r2.M) (by decide) (by decide)
      rw [rf_ck m2]
      refine hx_bs ?_
      rw [sm_add]
      refine Hx.bd (rf_writes m2 hD2 (by omega)) (fun σ3 _ g => ?_)
      obtain ⟨r3, hD3⟩ := g
      refine hx_nm ?_
      rw [sm_add]
      refine (ih n (k + 1) (r * 10 % d) (D1 ++ [48 + r * 10 / d]) σ3 (by omega) (by omega) (Nat.mod_lt _ hd.1) (r3.ms m2) (v2.kM r3 (by decide)) ((B1.keep r2 (by decide)).kM r3 (by decide)) hD3 (by rw [List.length_append, List.length_singleton]; omega)).mo (fun σ4 _ g => ?_)
      refine ⟨r1.tr (r2'.tr ((r3.mo ⟨by decide, by decide⟩ (fun _ z => z)).tr g.1)), ?_⟩
      have : D ++ dds d f a (j + 1) k r = D1 ++ [48 + r * 10 / d] ++ dds d f a j (k + 1) (r * 10 % d) := by
        rw [e1]
        show D ++ ((if k = f then [91] else []) ++ [48 + r * 10 / d] ++ dds d f a j (k + 1) (r * 10 % d)) = _
        simp only [List.append_assoc]
      rw [this]
      exact g.2
    refine Hx.ce (sm_eq (by omega) (by omega)) (fun c => ?_) (fun c => ?_)
    · rw [rf_ck hm]
      refine hx_bs ?_
      refine Hx.bd (rf_writes hm hD (by omega)) (fun σ2 _ g => ?_)
      exact go σ2 (D ++ [91]) (g.1.ms hm) (g.1.mo ⟨by decide, by decide⟩ (fun _ z => z)) (hA.kM g.1 (by decide)) (hB.kM g.1 (by decide)) g.2 (by rw [List.length_append, List.length_singleton]; omega) (by rw [if_pos c])
    · exact go σ D hm rfM.rf hA hB hD (by omega) (by rw [if_neg c, List.append_nil])
theorem rf_writesDecimals {σ : St} {m d f a r : Nat} {D : List Nat} (hfa : f + a ≤ 100) (hd : 0 < d ∧ d < dig30) (hr : r < d) (hm : MS σ m) (hA : Rv σ m 13 r) (hB : Rv σ m 1 d) (hD : RDr σ m D) (hl : D.length + 210 ≤ 1200) : Hx (fX12_writesDecimals σ m (nI f) (nI a)) (fun σ' _ => rfM m [77] [1, 2, 42] nV σ σ' ∧ RDr σ' m (D ++ wdc d f a r)) := by
  rw [n_fX12_writesDecimals, sm_add]
  unfold wdc
  refine Hx.ce (sm_eq (by omega) (by omega)) (fun c => ?_) (fun c => ?_)
  · rw [if_pos c, List.append_nil]
    exact Hx.ret ⟨rfM.rf, hD⟩
  · rw [if_neg c, rf_ck hm]
    refine hx_bs ?_
    refine Hx.bd (rf_writes hm hD (by omega)) (fun σ2 _ g => ?_)
    refine (rf_wd_15 hfa hd (f + a) FU 0 r (D ++ [46]) σ2 (by unfold FU; omega) (by omega) hr (g.1.ms hm) (hA.kM g.1 (by decide)) (hB.kM g.1 (by decide)) g.2 (by rw [List.length_append, List.length_singleton]; omega)).mo (fun σ3 _ g' => ⟨(g.1.mo ⟨by decide, by decide⟩ (fun _ z => z)).tr g'.1, ?_⟩)
    rw [← List.append_assoc]
    exact g'.2
