/-! ===== the reference's calls: the continued form ===== -/
def cfl : Nat → Nat → Nat → List Nat
  | 0, _, _ => []
  | n + 1, hi, lo => if lo = 0 then [] else (hi / lo) :: cfl n lo (hi % lo)
def flo (q : Qv) : Nat := rnd 12 q
def abv (q : Qv) : Nat := if q.1 < 0 then flo q * q.2.2 - q.2.1 else q.2.1 - flo q * q.2.2
theorem flo_e (q : Qv) : flo q = if q.2.1 % q.2.2 ≠ 0 ∧ q.1 < 0 then q.2.1 / q.2.2 + 1 else q.2.1 / q.2.2 := by
  show rnd 12 q = _
  unfold rnd
  simp
theorem flo_b {q : Qv} (hq : qok q) : (q.1 < 0 → q.2.1 ≤ flo q * q.2.2) ∧ (¬ q.1 < 0 → flo q * q.2.2 ≤ q.2.1) ∧ abv q = (if q.1 < 0 ∧ q.2.1 % q.2.2 ≠ 0 then q.2.2 - q.2.1 % q.2.2 else q.2.1 % q.2.2) ∧ abv q < q.2.2 ∧ flo q < dig30 ∧ (flo q ≠ 0 → q.1 ≠ 0) ∧ flo q * q.2.2 < 10000 ^ 16 := by
  obtain ⟨s, n, d⟩ := q
  obtain ⟨h1, h2, h3, _, h4, h5⟩ := hq
  have h3 : 0 < d := h3
  have h4 : n < dig30 := h4
  have h5 : d < dig30 := h5
  have h2 : s = 0 ↔ n = 0 := h2
  have hd8 := dig30_lt
  have e := flo_e (s, n, d)
  have hdm := Nat.div_add_mod n d
  have hml := Nat.mod_lt n h3
  have hmul : n / d * d = n - n % d := by rw [Nat.mul_comm]; omega
  have hmul2 : (n / d + 1) * d = n - n % d + d := by rw [Nat.succ_mul, hmul]
  have hdl := Nat.div_le_self n d
  have hmle := Nat.mod_le n d
  have e : flo (s, n, d) = if n % d ≠ 0 ∧ s < 0 then n / d + 1 else n / d := e
  show (s < 0 → n ≤ flo (s, n, d) * d) ∧ (¬ s < 0 → flo (s, n, d) * d ≤ n) ∧ (if s < 0 then flo (s, n, d) * d - n else n - flo (s, n, d) * d) = (if s < 0 ∧ n % d ≠ 0 then d - n % d else n % d) ∧ (if s < 0 then flo (s, n, d) * d - n else n - flo (s, n, d) * d) < d ∧ flo (s, n, d) < dig30 ∧ (flo (s, n, d) ≠ 0 → s ≠ 0) ∧ flo (s, n, d) * d < 10000 ^ 16
  have p16 : 10000 ^ 16 = 10000 ^ 8 * 10000 ^ 8 := rfl
  rw [e]
  by_cases c : n % d ≠ 0 ∧ s < 0
  · rw [if_pos c, hmul2]
    have c1 := c.1
    have c2 := c.2
    have hd2 : 2 ≤ d := by
      rcases Nat.lt_or_ge d 2 with q | q
      · have : d = 1 := by omega
        subst this
        rw [Nat.mod_one] at c1
        exact absurd rfl c1
      · exact q
    have hq2 : n / d ≤ n / 2 := Nat.div_le_div_left hd2 (by omega)
    rw [if_pos c2, if_pos (And.intro c2 c1)]
    refine ⟨fun _ => by omega, fun z => absurd c2 z, by omega, by omega, by omega, fun _ => by omega, by omega⟩
  · rw [if_neg c, hmul]
    have hz : ¬ (s < 0 ∧ n % d ≠ 0) := fun q => c ⟨q.2, q.1⟩
    rw [if_neg hz]
    refine ⟨fun q => ?_, fun _ => by omega, ?_, ?_, by omega, fun q z => q (by rw [h2.mp z]; exact Nat.zero_div d), by omega⟩
    · have : n % d = 0 := Classical.byContradiction fun r => c ⟨r, q⟩
      omega
    · split
      · rename_i c2
        have : n % d = 0 := Classical.byContradiction fun r => c ⟨r, c2⟩
        omega
      · omega
    · split
      · omega
      · omega
theorem hlf_mod {hi lo : Nat} (h0 : 0 < lo) (h : lo ≤ hi) : lo * (hi % lo) * 2 ≤ hi * lo := by
  have hdm := Nat.div_add_mod hi lo
  have hq : 1 ≤ hi / lo := Nat.div_pos h h0
  have hml := Nat.mod_lt hi h0
  have : lo ≤ lo * (hi / lo) := Nat.le_mul_of_pos_right lo hq
  have h2 : hi % lo * 2 ≤ hi := by omega
  calc lo * (hi % lo) * 2 = lo * (hi % lo * 2) := Nat.mul_assoc ..
    _ ≤ lo * hi := Nat.mul_le_mul_left lo h2
    _ = hi * lo := Nat.mul_comm ..
theorem cfl_fuel : ∀ (n k hi lo : Nat), lo ≤ hi → hi * lo < 2 ^ n → hi * lo < 2 ^ k → cfl n hi lo = cfl k hi lo := by
  intro n
  induction n with
  | zero =>
    intro k hi lo h1 h2 h3
    have h0 : hi * lo = 0 := by rw [Nat.pow_zero] at h2; omega
    have : lo = 0 := by
      rcases Nat.mul_eq_zero.mp h0 with q | q
      · omega
      · exact q
    subst this
    cases k with
    | zero => rfl
    | succ k => rfl
  | succ n ih =>
    intro k hi lo h1 h2 h3
    cases k with
    | zero =>
      have h0 : hi * lo = 0 := by rw [Nat.pow_zero] at h3; omega
      have : lo = 0 := by
        rcases Nat.mul_eq_zero.mp h0 with q | q
        · omega
        · exact q
      subst this
      rfl
    | succ k =>
      unfold cfl
      by_cases c : lo = 0
      · rw [if_pos c, if_pos c]
      · rw [if_neg c, if_neg c]
        have hh := hlf_mod (by omega : 0 < lo) h1
        rw [Nat.pow_succ] at h2 h3
        rw [ih k lo (hi % lo) (Nat.le_of_lt (Nat.mod_lt _ (by omega))) (by omega) (by omega)]
theorem cfl_len : ∀ (n hi lo : Nat), (cfl n hi lo).length ≤ n
  | 0, _, _ => Nat.le_refl _
  | n + 1, hi, lo => by
    unfold cfl
    split
    · exact Nat.zero_le _
    · have := cfl_len n lo (hi % lo)
      rw [List.length_cons]; omega
/-- a loop through the continued form -/
def CfP (m F : Nat) (p : Int) (l : List Nat) (hi : Nat) (σ0 σ' : St) (v : Int32) : Prop := rfM m [79] [1, 2] nV σ0 σ' ∧ ((∃ (i x : Nat), l[i]? = some x ∧ p = (F : Int) + i ∧ v = nI 1 ∧ Rv σ' m 6 x) ∨ ((∀ i : Nat, i < l.length → p ≠ (F : Int) + i) ∧ v = iz (-2) ∧ Fi σ' m 79 (nI (F + l.length))))
theorem rf_co_106 {m : Nat} {p : Int} {σ0 : St} (hp : -1 ≤ p ∧ p < 2147483648) : ∀ (k n F hi lo : Nat) (σ : St), k < n → lo ≤ hi → hi < dig30 → hi * lo < 2 ^ k → 1 ≤ F → F + k ≤ 1000 → MS σ m → rfM m [79] [1, 2] nV σ0 σ → Rv σ m 13 lo → Rv σ m 14 hi → Fi σ m 79 (nI F) → Hx (fX12_continues_106 n σ m (iz p)) (CfP m F p (cfl k hi lo) hi σ0) := by
  have hd8 := dig30_lt
  intro k
  induction k with
  | zero =>
    intro n F hi lo σ hn h1 hb h2 hF hF2 hm hR hA hB h79
    obtain ⟨n, rfl⟩ : ∃ j, n = j + 1 := ⟨n - 1, by omega⟩
    have h0 : hi * lo = 0 := by rw [Nat.pow_zero] at h2; omega
    have lo0 : lo = 0 := by
      rcases Nat.mul_eq_zero.mp h0 with q | q
      · omega
      · exact q
    obtain ⟨w, w1, w2, w3⟩ := hA.z
    rw [n_fX12_continues_106, rf_wide hm]
    refine hx_bs ?_
    rw [ld_wide hm (by omega), w1]
    refine hx_bs ?_
    refine Hx.ce (sm_le (by omega) (by omega)) (fun _ => ?_) (fun z => absurd z (by have := w3.mpr lo0; omega))
    exact Hx.ret ⟨hR, Or.inr ⟨fun i hi => absurd hi (Nat.not_lt_zero i), rfl, h79⟩⟩
  | succ k ih =>
    intro n F hi lo σ hn h1 hb h2 hF hF2 hm hR hA hB h79
    obtain ⟨n, rfl⟩ : ∃ j, n = j + 1 := ⟨n - 1, by omega⟩
    obtain ⟨w, w1, w2, w3⟩ := hA.z
    rw [n_fX12_continues_106, rf_wide hm]
    refine hx_bs ?_
    rw [ld_wide hm (by omega), w1]
    refine hx_bs ?_
    by_cases c : lo = 0
    · have e : cfl (k + 1) hi lo = [] := by
        show (if lo = 0 then _ else _) = _
        rw [if_pos c]
      rw [e]
      refine Hx.ce (sm_le (by omega) (by omega)) (fun _ => ?_) (fun z => absurd z (by have := w3.mpr c; omega))
      exact Hx.ret ⟨hR, Or.inr ⟨fun i hi => absurd hi (Nat.not_lt_zero i), rfl, h79⟩⟩
    · have e : cfl (k + 1) hi lo = (hi / lo) :: cfl k lo (hi % lo) := by
        show (if lo = 0 then _ else _) = _
        rw [if_neg c]
      rw [e]
      refine Hx.ce (sm_le (by omega) (by omega)) (fun z => absurd z (fun q => c (w3.mp (by omega)))) (fun _ => ?_)
      have hlo : 0 < lo := by omega
      rw [rf_ck hm]
      refine hx_bs ?_
      obtain ⟨σ1, e1, r1, v1, v2⟩ := rf_divides (a := 14) (b := 13) (u := 8) hm (by omega) (by omega) (by omega) (by omega) (by omega) (by omega) hlo hB hA
      rw [e1]
      refine hx_cs ?_
      have m1 := r1.ms hm
      rw [rf_ck m1]
      refine hx_bs ?_
      obtain ⟨σ2, e2, r2, v3⟩ := rf_copies (t := 6) (f := 9) m1 (by omega) (by omega) (by omega) v1
      rw [e2]
      refine hx_cs ?_
      have m2 := r2.ms m1
      rw [rf_ck m2]
      refine hx_bs ?_
      obtain ⟨σ3, e3, r3, v4⟩ := rf_copies (t := 14) (f := 13) m2 (by omega) (by omega) (by omega) ((hA.keep r1 (by decide)).keep r2 (by decide))
      rw [e3]
      refine hx_cs ?_
      have m3 := r3.ms m2
      rw [rf_ck m3]
      refine hx_bs ?_
      obtain ⟨σ4, e4, r4, v5⟩ := rf_copies (t := 13) (f := 10) m3 (by omega) (by omega) (by omega) ((v2.keep r2 (by decide)).keep r3 (by decide))
      rw [e4]
      refine hx_cs ?_
      have m4 := r4.ms m3
      have R4 : rfM m [] [1, 2] nV σ σ4 := r1.M.tr (r2.M.tr (r3.M.tr r4.M))
      rw [fi_g m4 (h79.keep R4 (by decide))]
      refine hx_bs ?_
      rw [sm_add, rf_pI m4]
      refine hx_bs ?_
      have w5 : rfM m [79] [1, 2] nV σ4 (wI σ4 (fid 16 79) m (nI (F + 1))) := rfM.wI (by simp)
      have f5 : Fi (wI σ4 (fid 16 79) m (nI (F + 1))) m 79 (nI (F + 1)) := fi_wI
      have A5 : Rv (wI σ4 (fid 16 79) m (nI (F + 1))) m 13 (hi % lo) := v5.kM (rfM.wI (F := [79]) (A := []) (V := nV) (by simp)) (by decide)
      have B5 : Rv (wI σ4 (fid 16 79) m (nI (F + 1))) m 14 lo := (v4.keep r4 (by decide)).kM (rfM.wI (F := [79]) (A := []) (V := nV) (by simp)) (by decide)
      have N5 : Rv (wI σ4 (fid 16 79) m (nI (F + 1))) m 6 (hi / lo) := ((v3.keep r3 (by decide)).keep r4 (by decide)).kM (rfM.wI (F := [79]) (A := []) (V := nV) (by simp)) (by decide)
      generalize wI σ4 (fid 16 79) m (nI (F + 1)) = σ5 at w5 f5 A5 B5 N5 ⊢
      have m5 := w5.ms m4
      have R5 : rfM m [79] [1, 2] nV σ0 σ5 := hR.tr ((R4.mo ⟨by decide, by decide⟩ (fun _ z => z)).tr w5)
      rw [fi_g m5 f5]
      refine hx_bs ?_
      rw [sm_sub (by omega), Nat.add_sub_cancel, sm_iz F]
      refine Hx.ce (iz_eq (by omega) (by omega) (by omega) (by omega)) (fun c2 => ?_) (fun c2 => ?_)
      · exact Hx.ret ⟨R5, Or.inl ⟨0, hi / lo, rfl, by rw [c2]; rfl, rfl, N5⟩⟩
      · have hh := hlf_mod hlo h1
        rw [Nat.pow_succ] at h2
        refine (ih n (F + 1) lo (hi % lo) σ5 (by omega) (Nat.le_of_lt (Nat.mod_lt _ hlo)) (by omega) (by omega) (by omega) (by omega) m5 R5 A5 B5 f5).mo (fun σ6 v g => ?_)
        obtain ⟨g1, g2⟩ := g
        refine ⟨g1, ?_⟩
        rcases g2 with ⟨i, x, u1, u2, u3⟩ | ⟨u1, u2, u3⟩
        · exact Or.inl ⟨i + 1, x, u1, by rw [u2]; omega, u3⟩
        · refine Or.inr ⟨fun i hi2 => ?_, u2, ?_⟩
          · cases i with
            | zero => intro q; exact c2 (by rw [q]; rfl)
            | succ i =>
              have := u1 i (by rw [List.length_cons] at hi2; omega)
              intro q
              exact this (by rw [q]; omega)
          · rw [List.length_cons, show F + ((cfl k lo (hi % lo)).length + 1) = F + 1 + (cfl k lo (hi % lo)).length by omega]
            exact u3
def cfq (q : Qv) : List Nat := cfl 210 q.2.2 (abv q)
theorem dig30_sq : dig30 * dig30 < 2 ^ 210 := by unfold dig30; omega
/-- the numbers of the continued form, the first apart -/
theorem rf_continues {σ : St} {m i : Nat} {q : Qv} {p : Int} (hp : -1 ≤ p ∧ p < 2147483648) (hm : MS σ m) (h57 : Fi σ m 57 (nI i)) (hV : Vl σ m i q) (hi : i < 12600) : Hx (fX12_continues σ m (iz p)) (fun σ' v => rfM m [79] [1, 2] nV σ σ' ∧ ((p = 0 ∧ v = iz (if flo q = 0 then 0 else q.1) ∧ Rv σ' m 6 (flo q)) ∨ (∃ (j x : Nat), (cfq q)[j]? = some x ∧ p = 1 + (j : Int) ∧ v = nI 1 ∧ Rv σ' m 6 x) ∨ (p ≠ 0 ∧ (∀ j : Nat, j < (cfq q).length → p ≠ 1 + (j : Int)) ∧ v = iz (-2) ∧ Fi σ' m 79 (nI (1 + (cfq q).length))))) := by
  have hq := hV.1
  have hd8 := dig30_lt
  obtain ⟨b1, b2, b3, b4, b5, b6, b7⟩ := flo_b hq
  have hs := hq.sg
  rw [n_fX12_continues, rf_pI hm]
  refine hx_bs ?_
  have w : rfM m [79] [1, 2] nV σ (wI σ (fid 16 79) m (nI 0)) := rfM.wI (by simp)
  generalize wI σ (fid 16 79) m (nI 0) = σ1 at w ⊢
  have m1 := w.ms hm
  rw [fi_g m1 (h57.keep w (by decide))]
  refine hx_bs ?_
  rw [rf_ck m1]
  refine hx_bs ?_
  refine Hx.bd (rf_rounds (st := 12) m1 (Or.inl rfl) hi (hV.keepM w (fun z => z))) (fun σ2 v2 g => ?_)
  obtain ⟨r2, n2, _, g2⟩ := g
  obtain ⟨d2, a2⟩ := g2 rfl
  have m2 := r2.ms m1
  have n2 : Rv σ2 m 6 (flo q) := n2
  rw [rf_ck m2]
  refine hx_bs ?_
  obtain ⟨σ3, e3, r3, v3⟩ := rf_copies (t := 4) (f := 6) m2 (by omega) (by omega) (by omega) n2
  rw [e3]
  refine hx_cs ?_
  have m3 := r3.ms m2
  have R13 : rfM m [79] [1, 2] nV σ σ3 := w.tr ((show rfM m [] [1, 2] nV σ1 σ3 from r2.M.tr r3.M).mo ⟨by decide, by decide⟩ (fun _ z => z))
  rw [rf_sign m3]
  refine hx_bs ?_
  rw [fi_g m3 (h57.keep R13 (by decide))]
  refine hx_bs ?_
  rw [(hV.keepM R13 (fun z => z)).sg m3 hi]
  refine hx_bs ?_
  rw [rf_ck m3]
  refine hx_bs ?_
  obtain ⟨σ4, e4, r4, v4⟩ := rf_multiplies (t := 5) (a := 4) (b := 1) (u := 8) (v := 8) m3 (by omega) (by omega) (by omega) (by omega) (by omega) (by omega) (by omega) (by have := hq.2.2.2.2.2; omega) v3 (d2.keep r3 (by decide))
  rw [e4]
  refine hx_cs ?_
  have m4 := r4.ms m3
  have a4 : Rv σ4 m 0 q.2.1 := (a2.keep r3 (by decide)).keep r4 (by decide)
  have d4 : Rv σ4 m 1 q.2.2 := (d2.keep r3 (by decide)).keep r4 (by decide)
  have n4 : Rv σ4 m 6 (flo q) := (n2.keep r3 (by decide)).keep r4 (by decide)
  have R4 : rfM m [79] [1, 2] nV σ σ4 := R13.tr ((show rfM m [] [1, 2] nV σ3 σ4 from r4.M).mo ⟨by decide, by decide⟩ (fun _ z => z))
  have g74 : ∀ σ5, MS σ5 m → rfM m [79] [1, 2] nV σ σ5 → Rv σ5 m 13 (abv q) → Rv σ5 m 1 q.2.2 → Rv σ5 m 6 (flo q) → Hx (fX12_continues_74 σ5 m (iz p) (iz q.1)) (fun σ' v => rfM m [79] [1, 2] nV σ σ' ∧ ((p = 0 ∧ v = iz (if flo q = 0 then 0 else q.1) ∧ Rv σ' m 6 (flo q)) ∨ (∃ (j x : Nat), (cfq q)[j]? = some x ∧ p = 1 + (j : Int) ∧ v = nI 1 ∧ Rv σ' m 6 x) ∨ (p ≠ 0 ∧ (∀ j : Nat, j < (cfq q).length → p ≠ 1 + (j : Int)) ∧ v = iz (-2) ∧ Fi σ' m 79 (nI (1 + (cfq q).length))))) := by
    intro σ5 m5 R5 A5 D5 N5
    rw [n_fX12_continues_74, rf_ck m5]
    refine hx_bs ?_
    obtain ⟨σ6, e6, r6, v6⟩ := rf_copies (t := 14) (f := 1) m5 (by omega) (by omega) (by omega) D5
    rw [e6]
    refine hx_cs ?_
    have m6 := r6.ms m5
    rw [rf_pI m6]
    refine hx_bs ?_
    have w7 : rfM m [79] [1, 2] nV σ6 (wI σ6 (fid 16 79) m (nI 1)) := rfM.wI (by simp)
    have kk : ∀ r x, Rv σ6 m r x → Rv (wI σ6 (fid 16 79) m (nI 1)) m r x := fun r x h => h.kM (rfM.wI (F := [79]) (A := []) (V := nV) (by simp)) (by decide)
    have A7 := kk 13 _ (A5.keep r6 (by decide))
    have B7 := kk 14 _ v6
    have N7 := kk 6 _ (N5.keep r6 (by decide))
    have f7 : Fi (wI σ6 (fid 16 79) m (nI 1)) m 79 (nI 1) := fi_wI
    clear kk
    generalize wI σ6 (fid 16 79) m (nI 1) = σ7 at w7 A7 B7 N7 f7 ⊢
    have m7 := w7.ms m6
    have R7 : rfM m [79] [1, 2] nV σ σ7 := R5.tr (((show rfM m [] [1, 2] nV σ5 σ6 from r6.M).mo ⟨by decide, by decide⟩ (fun _ z => z)).tr w7)
    rw [show nI 0 = iz 0 from rfl]
    refine Hx.ce (iz_eq (by omega) (by omega) (by omega) (by omega)) (fun c => ?_) (fun c => ?_)
    · obtain ⟨wd, w1, w2, w3⟩ := N7.z
      rw [rf_wide m7]
      refine hx_bs ?_
      rw [ld_wide m7 (by omega), w1]
      refine hx_bs ?_
      refine Hx.ce (show (nI wd = iz 0) = (wd = 0) from sm_eq (a := wd) (b := 0) (by omega) (by omega)) (fun c2 => ?_) (fun c2 => ?_)
      · exact Hx.ret ⟨R7, Or.inl ⟨c, by rw [if_pos (w3.mp c2)], N7⟩⟩
      · exact Hx.ret ⟨R7, Or.inl ⟨c, by rw [if_neg (fun z => c2 (w3.mpr z))], N7⟩⟩
    · have hsq := dig30_sq
      have hle : q.2.2 * abv q ≤ dig30 * dig30 := Nat.mul_le_mul (Nat.le_of_lt hq.2.2.2.2.2) (by have := hq.2.2.2.2.2; omega)
      refine (rf_co_106 (σ0 := σ7) hp 210 FU 1 q.2.2 (abv q) σ7 (by unfold FU; omega) (Nat.le_of_lt b4) hq.2.2.2.2.2 (by omega) (by omega) (by omega) m7 rfM.rf A7 B7 f7).mo (fun σ8 v g => ?_)
      obtain ⟨g1, g2⟩ := g
      refine ⟨R7.tr g1, ?_⟩
      rcases g2 with ⟨j, x, u1, u2, u3, u4⟩ | ⟨u1, u2, u3⟩
      · exact Or.inr (Or.inl ⟨j, x, u1, u2, u3, u4⟩)
      · exact Or.inr (Or.inr ⟨c, u1, u2, u3⟩)
  have hn8 : q.2.1 < 10000 ^ 8 := by have := hq.2.2.2.2.1; omega
  rw [show nI 0 = iz 0 from rfl]
  refine Hx.ce (iz_lt (by omega) (by omega) (by omega) (by omega)) (fun c => ?_) (fun c => ?_)
  · rw [rf_ck m4]
    refine hx_bs ?_
    obtain ⟨σ5, e5, r5, v5⟩ := rf_copies (t := 13) (f := 5) m4 (by omega) (by omega) (by omega) v4
    rw [e5]
    refine hx_cs ?_
    have m5 := r5.ms m4
    rw [rf_ck m5]
    refine hx_bs ?_
    obtain ⟨σ6, e6, r6, v6⟩ := rf_takesAway (t := 13) (b := 0) m5 (by omega) (by omega) (by omega) (b1 c) v5 (a4.keep r5 (by decide))
    rw [show iz 0 = nI 0 from rfl, e6]
    refine hx_cs ?_
    have ea : abv q = flo q * q.2.2 - q.2.1 := by unfold abv; rw [if_pos c]
    exact g74 σ6 (r6.ms m5) (R4.tr ((show rfM m [] [1, 2] nV σ4 σ6 from r5.M.tr r6.M).mo ⟨by decide, by decide⟩ (fun _ z => z))) (by rw [ea]; exact v6) ((d4.keep r5 (by decide)).keep r6 (by decide)) ((n4.keep r5 (by decide)).keep r6 (by decide))
  · rw [rf_ck m4]
    refine hx_bs ?_
    rw [show iz 0 = nI 0 from rfl]
    obtain ⟨σ5, e5, r5, v5⟩ := rf_copies (t := 13) (f := 0) m4 (by omega) (by omega) (by omega) a4
    rw [e5]
    refine hx_cs ?_
    have m5 := r5.ms m4
    rw [rf_ck m5]
    refine hx_bs ?_
    obtain ⟨σ6, e6, r6, v6⟩ := rf_takesAway (t := 13) (b := 5) m5 (by omega) (by omega) (by omega) (b2 c) v5 (v4.keep r5 (by decide))
    rw [e6]
    refine hx_cs ?_
    have ea : abv q = q.2.1 - flo q * q.2.2 := by unfold abv; rw [if_neg c]
    exact g74 σ6 (r6.ms m5) (R4.tr ((show rfM m [] [1, 2] nV σ4 σ6 from r5.M.tr r6.M).mo ⟨by decide, by decide⟩ (fun _ z => z))) (by rw [ea]; exact v6) ((d4.keep r5 (by decide)).keep r6 (by decide)) ((n4.keep r5 (by decide)).keep r6 (by decide))
theorem RI.k79 {σ σ' : St} {m : Nat} {c : Rct} {s : Rst} (h : RI σ m c s) (hR : rfM m [79] [1, 2] nV σ σ') : RI σ' m c s := h.keep hR ⟨by decide, by decide⟩ (fun _ _ _ => Or.inl (fun z => z))
theorem ri_continued {σ : St} {m : Nat} {c : Rct} {s : Rst} (h : RI σ m c s) : Hx (fX12_continued σ m) (RV m c s (1 + (cfq s.2.2.2.1).length : Nat) s σ) := by
  rw [n_fX12_continued]
  refine rf_set0 h.1.1 (fun σ1 r1 m1 f0 => ?_)
  have h1 := h.k0 r1
  obtain ⟨ai, a1, a2⟩ := h1.2.1.1
  rw [rf_ck m1]
  refine hx_bs ?_
  refine Hx.bd (rf_continues (p := -1) (by omega) m1 a1 a2.2 (by have := a2.1; omega)) (fun σ2 v g => ?_)
  obtain ⟨r2, g⟩ := g
  rcases g with ⟨z, _⟩ | ⟨j, x, _, z, _⟩ | ⟨_, _, _, f79⟩
  · omega
  · omega
  · rw [fi_g (r2.ms m1) f79]
    exact hx_bs (Hx.ret ⟨r1.1.tr r2.1, sm_iz _, c, h1.k79 r2, RBd.rf rfl⟩)
/-- a number of the continued form -/
def cfv (q : Qv) (k : Nat) : Qv := match k with
  | 0 => (if flo q = 0 then 0 else q.1, flo q, 1)
  | k + 1 => match (cfq q)[k]? with
    | some x => (1, x, 1)
    | none => (0, 0, 1)
theorem cfl_b : ∀ (n hi lo x : Nat), lo ≤ hi → x ∈ cfl n hi lo → 0 < x ∧ x ≤ hi
  | 0, _, _, _, _, h => by cases h
  | n + 1, hi, lo, x, hl, h => by
    unfold cfl at h
    split at h
    · cases h
    · rename_i c
      rcases List.mem_cons.mp h with rfl | h
      · exact ⟨Nat.div_pos hl (by omega), Nat.div_le_self _ _⟩
      · have := cfl_b n lo (hi % lo) x (Nat.le_of_lt (Nat.mod_lt _ (by omega))) h
        omega
theorem qmk_o {s : Int} {x : Nat} : qmk s x 1 = (if x = 0 then 0 else s, x, 1) := by
  unfold qmk
  rw [Nat.gcd_one_right, Nat.div_one]
theorem ri_takeContinued {σ : St} {m : Nat} {c : Rct} {s : Rst} {z : Int} (hz : -2147483648 ≤ z ∧ z < 2147483648) (hv : c.1 + 1 < 12600) (h : RI σ m c s) : Hx (fX12_takeContinued σ m (iz z)) (RO m c s (if 0 ≤ z ∧ z < 1 + (cfq s.2.2.2.1).length then 0 else 1) (cfv s.2.2.2.1 z.toNat).1 (if 0 ≤ z ∧ z < 1 + (cfq s.2.2.2.1).length then setA s (cfv s.2.2.2.1 z.toNat) else s) σ) := by
  have hd8 := dig30_lt
  rw [n_fX12_takeContinued]
  refine rf_set0 h.1.1 (fun σ1 r1 m1 f0 => ?_)
  have h1 := h.k0 r1
  obtain ⟨ai, a1, a2⟩ := h1.2.1.1
  have hq := a2.2.1
  obtain ⟨b1, b2, b3, b4, b5, b6, b7⟩ := flo_b hq
  have hs := hq.sg
  have bad : ∀ σ2, rfM m [79] [1, 2] nV σ1 σ2 → ¬ (0 ≤ z ∧ z < 1 + ((cfq s.2.2.2.1).length : Int)) → Hx (fX12_takeContinued_19 σ2 m (iz (-2))) (RO m c s (if 0 ≤ z ∧ z < 1 + (cfq s.2.2.2.1).length then 0 else 1) (cfv s.2.2.2.1 z.toNat).1 (if 0 ≤ z ∧ z < 1 + (cfq s.2.2.2.1).length then setA s (cfv s.2.2.2.1 z.toNat) else s) σ) := by
    intro σ2 r2 hn
    have m2 := r2.ms m1
    rw [n_fX12_takeContinued_19, if_pos (by rw [iz_le (by omega) (by omega) (by omega) (by omega)]; omega), n_fX12_takeContinued_32, rf_ck m2]
    refine hx_bs ?_
    refine Hx.bd (rf_fails0 m2 (f0.keep r2 (by decide)) (show 0 < 1 by omega) (by omega)) (fun σ5 v g => ?_)
    obtain ⟨rfl, r5, f5⟩ := g
    refine Hx.ce (sm_eq (show 1 < 2147483648 by omega) (by omega)) (fun z => absurd z (by omega)) (fun _ => ?_)
    rw [if_neg hn, if_neg hn]
    exact Hx.ret ⟨(r1.1.tr r2.1).tr r5.1, f5, fun q => (by cases q), c, (h1.k79 r2).k0 r5, RBd.rf rfl⟩
  have good : ∀ (σ2 : St) (t : Int) (x : Nat), rfM m [79] [1, 2] nV σ1 σ2 → 0 ≤ z ∧ z < 1 + ((cfq s.2.2.2.1).length : Int) → Rv σ2 m 6 x → x < dig30 → -1 ≤ t ∧ t ≤ 1 → (x ≠ 0 → t = 1 ∨ t = -1) → cfv s.2.2.2.1 z.toNat = (if x = 0 then 0 else t, x, 1) → Hx (fX12_takeContinued_19 σ2 m (iz t)) (RO m c s (if 0 ≤ z ∧ z < 1 + (cfq s.2.2.2.1).length then 0 else 1) (cfv s.2.2.2.1 z.toNat).1 (if 0 ≤ z ∧ z < 1 + (cfq s.2.2.2.1).length then setA s (cfv s.2.2.2.1 z.toNat) else s) σ) := by
    intro σ2 t x r2 hn hx hxb ht hxt hcv
    have m2 := r2.ms m1
    have f2 := f0.keep r2 (by decide)
    have h2 := h1.k79 r2
    rw [n_fX12_takeContinued_19, if_neg (by rw [iz_le (by omega) (by omega) (by omega) (by omega)]; omega), n_fX12_takeContinued_32, rf_ck m2]
    refine hx_bs ?_
    rw [rf_fails1 m2 f2]
    refine hx_cs (Hx.ce rfl (fun _ => ?_) (fun q => absurd rfl q))
    rw [rf_ck m2]
    refine hx_bs ?_
    obtain ⟨σ3, e3, r3, v3⟩ := rf_puts (r := 7) (v := 1) m2 (by omega) (by omega)
    rw [e3]
    refine hx_cs ?_
    have m3 := r3.ms m2
    have R3 : rfM m [] [1, 2] nV σ2 σ3 := r3.M
    have h3 := h2.k12 R3
    rw [rf_ck m3]
    refine hx_bs ?_
    refine Hx.bd (rf_keepsMade (s := t) m3 h3.2.2.2.1.1 (by omega) (show 8 ≤ 978 by omega) (by omega) (by omega) (by omega) hxt (hx.keep r3 (by decide)) v3) (fun σ7 v g => ?_)
    obtain ⟨r7, g1, _⟩ := g
    have sm : qsm (qmk t x 1) := by rw [qmk_o]; exact ⟨hxb, by show 1 < dig30; unfold dig30; omega⟩
    obtain ⟨rfl, k5, kV⟩ := g1 sm
    have m7 := r7.ms m3
    have R7 : rfM m [5] [1, 2, 42, 44] (fun j => c.1 ≤ j) σ3 σ7 := r7.mo ⟨by decide, by decide⟩ (fun j q => by have q : j = c.1 := q; omega)
    have h7 := h3.mk5 R7 (by decide) k5 ⟨by omega, by omega⟩
    rw [rf_ck m7]
    refine hx_bs ?_
    refine Hx.bd (ri_becomes (c := (c.1 + 1, c.2)) h7 hv kV (Or.inr (Nat.lt_succ_self _))) (fun σ8 v g => ?_)
    obtain ⟨rfl, r8, c', h8, k1, k2⟩ := g
    have k1 : c.1 + 1 ≤ c'.1 ∧ c'.1 ≤ c.1 + 1 + 1 := k1
    rw [if_pos hn, if_pos hn, hcv, ← qmk_o]
    refine Hx.ret ⟨((r1.1.tr r2.1).tr R3.1).tr (r7.1.tr r8.1), ((f2.keep R3 (by decide)).keep r7 (by decide)).keep r8 (by decide), fun _ => rfl, c', h8, ?_⟩
    unfold RBd
    rw [k2]
    show c'.1 + s.1.length ≤ _ ∧ c.2.1 + s.1.length ≤ _ ∧ c.2.2 ≤ _
    omega
  rw [show nI 0 = iz 0 from rfl]
  refine Hx.ce (iz_le (by omega) (by omega) (by omega) (by omega)) (fun c1 => ?_) (fun c1 => ?_)
  · rw [rf_ck m1]
    refine hx_bs ?_
    refine Hx.bd (rf_continues (p := z) (by omega) m1 a1 a2.2 (by have := a2.1; omega)) (fun σ2 v g => ?_)
    obtain ⟨r2, g⟩ := g
    rcases g with ⟨rfl, rfl, u1⟩ | ⟨j, x, u1, rfl, rfl, u2⟩ | ⟨u0, u1, rfl, _⟩
    · refine good σ2 _ (flo s.2.2.2.1) r2 (by omega) u1 b5 (by split <;> omega) (fun q => ?_) ?_
      · rw [if_neg q]
        have := b6 q
        omega
      · show (if flo s.2.2.2.1 = 0 then 0 else s.2.2.2.1.1, flo s.2.2.2.1, 1) = _
        split
        · rfl
        · rfl
    · have hj := (List.getElem?_eq_some_iff.mp u1).1
      have hb := cfl_b _ _ _ _ (Nat.le_of_lt b4) (List.mem_of_getElem? u1)
      have hdd := hq.2.2.2.2.2
      have := good σ2 1 x r2 (by omega) u2 (by omega) (by omega) (fun _ => Or.inl rfl) (by
        rw [if_neg (by omega), show ((1 : Int) + (j : Int)).toNat = j + 1 by omega]
        show (match (cfq s.2.2.2.1)[j]? with
          | some x => ((1 : Int), x, 1)
          | none => (0, 0, 1)) = _
        rw [u1])
      exact this
    · refine bad σ2 r2 (fun q => ?_)
      obtain ⟨k, hk⟩ := Int.eq_ofNat_of_zero_le q.1
      rcases Nat.eq_zero_or_pos k with e | e
      · subst e; exact u0 hk
      · exact u1 (k - 1) (by omega) (by omega)
  · exact bad σ1 rfM.rf (by omega)
