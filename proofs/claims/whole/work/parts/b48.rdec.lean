/-! ===== the reference: digits, decimals ===== -/
theorem RI.kd {σ σ' : St} {m : Nat} {c : Rct} {s : Rst} {F A : List Nat} (h : RI σ m c s) (hR : rfM m F A nV σ σ') (hF : (∀ f ∈ F, f = 0 ∨ f = 77) ∧ ∀ a ∈ A, a = 1 ∨ a = 2 ∨ a = 21 ∨ a = 42) : RI σ' m c s := by
  refine h.keep hR ⟨fun f hf q => ?_, fun a ha q => ?_⟩ (fun _ _ _ => Or.inl (fun z => z))
  · have := hF.1 f q
    rcases this with rfl | rfl
    · revert hf; decide
    · revert hf; decide
  · have := hF.2 a q
    rcases this with rfl | rfl | rfl | rfl
    · revert ha; decide
    · revert ha; decide
    · revert ha; decide
    · revert ha; decide
theorem RDr.nil {σ : St} {m : Nat} (h : Fi σ m 77 (nI 0)) : RDr σ m [] := ⟨h, Nat.zero_le _, fun i c h => (by cases h)⟩
theorem dgx_len {x : Nat} (h : x < 10 ^ 36) : (dgx x).length ≤ 36 := by
  unfold dgx
  split
  · show 1 ≤ 36; omega
  · exact dl_len h (by omega)
theorem rf_drafts {σ : St} {m i b : Nat} {q : Qv} (hm : MS σ m) (h57 : Fi σ m 57 (nI i)) (hV : Vl σ m i q) (hi : i < 12600) (hb : b ≤ 1) : Hx (fX12_drafts σ m (nI b)) (fun σ' _ => rfM m [77] [1, 2, 42] nV σ σ' ∧ RDr σ' m (cod (dgx (if b = 0 then q.2.1 else q.2.2)))) := by
  rw [n_fX12_drafts, rf_pI hm]
  refine hx_bs ?_
  have w : rfM m [77] [1, 2, 42] nV σ (wI σ (fid 16 77) m (nI 0)) := rfM.wI (by simp)
  have f77 : Fi (wI σ (fid 16 77) m (nI 0)) m 77 (nI 0) := fi_wI
  generalize wI σ (fid 16 77) m (nI 0) = σ1 at w f77 ⊢
  have m1 := w.ms hm
  rw [fi_g m1 (h57.keep w (by decide))]
  refine hx_bs ?_
  rw [rf_ck m1]
  refine hx_bs ?_
  obtain ⟨σ2, e2, r2, v2⟩ := rf_loads (r := 0) m1 (by omega) hi (hV.keepM w (fun z => z)) b hb
  rw [e2]
  refine hx_cs ?_
  have r2' : rfM m [77] [1, 2, 42] nV σ1 σ2 := (show rfM m [] [1, 2] nV σ1 σ2 from r2.M).mo ⟨by decide, by decide⟩ (fun _ z => z)
  have m2 := r2'.ms m1
  rw [rf_ck m2]
  refine hx_bs ?_
  have hx : (if b = 0 then q.2.1 else q.2.2) < 10 ^ 36 := by
    have h1 := hV.1.2.2.2.2.1
    have h2 := hV.1.2.2.2.2.2
    have h3 := dig30_36
    split <;> omega
  refine Hx.bd (rf_writesNumber (D0 := []) m2 (by omega) hx v2 (RDr.nil ((f77.R r2))) (by show 0 + 40 ≤ 1200; omega)) (fun σ3 _ g => ?_)
  exact Hx.ret ⟨w.tr (r2'.tr (g.1.mo ⟨by decide, by decide⟩ (fun _ z => z))), g.2⟩
def prt (q : Qv) (b : Nat) : Nat := if b = 0 then q.2.1 else q.2.2
theorem ri_digits {σ : St} {m b : Nat} {c : Rct} {s : Rst} (hb : b ≤ 1) (h : RI σ m c s) : Hx (fX12_digits σ m (nI b)) (RV m c s (dgx (prt s.2.2.2.1 b)).length s σ) := by
  rw [n_fX12_digits]
  refine rf_set0 h.1.1 (fun σ1 r1 m1 f0 => ?_)
  have h1 := h.k0 r1
  obtain ⟨ai, a1, a2⟩ := h1.2.1.1
  rw [rf_ck m1]
  refine hx_bs ?_
  refine Hx.bd (rf_drafts m1 a1 a2.2 (by have := a2.1; omega) hb) (fun σ2 _ g => ?_)
  rw [fi_g (g.1.ms m1) g.2.1]
  refine hx_bs (Hx.ret ⟨r1.1.tr g.1.1, ?_, c, h1.kd g.1 ⟨by decide, by decide⟩, RBd.rf rfl⟩)
  rw [cod_len, sm_iz]
  rfl
theorem ri_digit {σ : St} {m b : Nat} {c : Rct} {s : Rst} {z : Int} (hz : -2147483648 ≤ z ∧ z < 2147483648) (hb : b ≤ 1) (h : RI σ m c s) : Hx (fX12_digit σ m (nI b) (iz z)) (RO m c s (if 0 ≤ z ∧ z < (dgx (prt s.2.2.2.1 b)).length then 0 else 1) (atI (dgx (prt s.2.2.2.1 b)) z (fun d => (d : Int))) s σ) := by
  rw [n_fX12_digit]
  refine rf_set0 h.1.1 (fun σ1 r1 m1 f0 => ?_)
  have h1 := h.k0 r1
  obtain ⟨ai, a1, a2⟩ := h1.2.1.1
  rw [rf_ck m1]
  refine hx_bs ?_
  refine Hx.bd (rf_drafts m1 a1 a2.2 (by have := a2.1; omega) hb) (fun σ2 _ g => ?_)
  obtain ⟨r2, d2⟩ := g
  have m2 := r2.ms m1
  have h2 := h1.kd r2 ⟨by decide, by decide⟩
  have f2 := f0.keep r2 (by decide)
  have hx : prt s.2.2.2.1 b < 10 ^ 36 := by
    have h1 := a2.2.1.2.2.2.2.1
    have h2 := a2.2.1.2.2.2.2.2
    have h3 := dig30_36
    unfold prt
    split <;> omega
  have hlen := dgx_len hx
  have e2 : (if b = 0 then s.2.2.2.1.2.1 else s.2.2.2.1.2.2) = prt s.2.2.2.1 b := rfl
  rw [e2] at d2
  rw [fi_g m2 d2.1, cod_len]
  refine hx_bs ?_
  rw [nI_prz]
  refine rf_tin (code := 1) hz (by omega) m2 f2 (by omega) (fun c1 => ?_) (fun c1 σ3 r3 f3 => ?_)
  · refine Hx.ce rfl (fun _ => ?_) (fun q => absurd rfl q)
    obtain ⟨i, rfl⟩ := Int.eq_ofNat_of_zero_le c1.1
    have hi : i < (dgx (prt s.2.2.2.1 b)).length := by omega
    rw [rf_draft m2]
    refine hx_bs ?_
    rw [← sm_iz, ld_draft m2 (by omega), d2.2.2 i (48 + (dgx (prt s.2.2.2.1 b))[i]) (by unfold cod; rw [List.getElem?_map, List.getElem?_eq_getElem hi]; rfl)]
    refine hx_bs (Hx.ret ⟨r1.1.tr r2.1, ?_, fun _ => ?_, c, h2, RBd.rf rfl⟩)
    · rw [if_pos (by omega)]; exact f2
    · rw [atI_of (List.getElem?_eq_getElem hi), sm_sub (by omega), sm_iz, Nat.add_sub_cancel_left]
  · refine Hx.ce (sm_eq (show 1 < 2147483648 by omega) (by omega)) (fun z => absurd z (by omega)) (fun _ => ?_)
    have c2 : ¬ (0 ≤ z ∧ z < ((dgx (prt s.2.2.2.1 b)).length : Int)) := by omega
    refine Hx.ret ⟨(r1.1.tr r2.1).tr r3.1, ?_, fun q => ?_, c, h2.k0 r3, RBd.rf rfl⟩
    · rw [if_neg c2]; exact f3
    · rw [if_neg c2] at q; cases q
/-- how often a number can be divided, and what is left -/
def pwf (c : Nat) : Nat → Nat → Nat × Nat
  | 0, y => (0, y)
  | n + 1, y => if y % c = 0 then ((pwf c n (y / c)).1 + 1, (pwf c n (y / c)).2) else (0, y)
theorem pwf_0 {c y : Nat} (h : ¬ y % c = 0) : ∀ n, pwf c n y = (0, y)
  | 0 => rfl
  | n + 1 => by unfold pwf; rw [if_neg h]
theorem pwf_fuel {c : Nat} (hc : 2 ≤ c) : ∀ (n k y : Nat), 0 < y → y < 2 ^ n → y < 2 ^ k → pwf c n y = pwf c k y := by
  intro n
  induction n with
  | zero => intro k y h0 h1 h2; rw [Nat.pow_zero] at h1; omega
  | succ n ih =>
    intro k y h0 h1 h2
    cases k with
    | zero => rw [Nat.pow_zero] at h2; omega
    | succ k =>
      unfold pwf
      by_cases h : y % c = 0
      · have hd := Nat.div_le_div_left hc (by omega : 0 < 2) (a := y)
        have hp : 0 < y / c := Nat.div_pos (Nat.le_of_dvd h0 (Nat.dvd_of_mod_eq_zero h)) (by omega)
        rw [Nat.pow_succ] at h1 h2
        rw [if_pos h, if_pos h, ih k (y / c) hp (by omega) (by omega)]
      · rw [if_neg h, if_neg h]
theorem pwf_pos {c : Nat} (hc : 2 ≤ c) : ∀ (n y : Nat), 0 < y → 0 < (pwf c n y).2 ∧ (pwf c n y).2 ≤ y ∧ (pwf c n y).1 ≤ n := by
  intro n
  induction n with
  | zero => intro y h; exact ⟨h, Nat.le_refl _, Nat.le_refl _⟩
  | succ n ih =>
    intro y h
    unfold pwf
    split
    · rename_i h2
      have hp : 0 < y / c := Nat.div_pos (Nat.le_of_dvd h (Nat.dvd_of_mod_eq_zero h2)) (by omega)
      have := ih (y / c) hp
      have h3 := Nat.div_le_self y c
      exact ⟨this.1, by show (pwf c n (y / c)).2 ≤ y; omega, by show (pwf c n (y / c)).1 + 1 ≤ n + 1; omega⟩
    · exact ⟨h, Nat.le_refl _, Nat.zero_le _⟩
/-- what is left of a denominator without its twos and fives, and how long the part ahead is -/
def twoy (y : Nat) : Nat × Nat := pwf 2 110 y
def fivy (y : Nat) : Nat × Nat := pwf 5 110 (twoy y).2
def cory (y : Nat) : Nat := (fivy y).2
def ahl (y : Nat) : Nat := if (twoy y).1 ≤ (fivy y).1 then (fivy y).1 else (twoy y).1
theorem dig30_2 : dig30 < 2 ^ 110 := by unfold dig30; omega
theorem rf_ah_41 {m A : Nat} (hA : A ≤ 200) : ∀ (k n x y : Nat) (σ : St), k < n → 0 < y → y < 2 ^ k → x + k ≤ 200 → MS σ m → Rv σ m 14 y → Hx (fX12_aheadLength_41 n σ m (nI A) (nI x)) (fun σ' v => v = nI (if A ≤ x + (pwf 5 k y).1 then x + (pwf 5 k y).1 else A) ∧ rfR m [14] σ σ' ∧ Rv σ' m 14 (pwf 5 k y).2) := by
  intro k
  induction k with
  | zero => intro n x y σ h1 h2 h3; rw [Nat.pow_zero] at h3; omega
  | succ k ih =>
    intro n x y σ hn h0 hy hx hm hV
    obtain ⟨n, rfl⟩ : ∃ j, n = j + 1 := ⟨n - 1, by omega⟩
    have hmod := Nat.mod_lt y (show 0 < 10000 by omega)
    rw [n_fX12_aheadLength_41, rf_ck hm]
    refine hx_bs ?_
    rw [rf_limb hm (by omega) (by omega) hV, dq_0]
    refine hx_cs ?_
    rw [sm_div (by omega) (by omega) (by omega), sm_mul, sm_sub (by omega)]
    have e5 : y % 10000 - y % 10000 / 5 * 5 = y % 5 := by omega
    rw [e5]
    refine Hx.ce (sm_eq (by omega) (by omega)) (fun c => ?_) (fun c => ?_)
    · have hp : 0 < y / 5 := by omega
      rw [Nat.pow_succ] at hy
      rw [rf_ck hm]
      refine hx_bs ?_
      obtain ⟨σ1, e1, r1, v1⟩ := rf_shortens (t := 14) (c := 5) hm (by omega) (by omega) (by omega) hV
      rw [e1]
      refine hx_cs ?_
      refine hx_nm ?_
      rw [sm_add]
      refine (ih n (x + 1) (y / 5) σ1 (by omega) hp (by omega) (by omega) (r1.ms hm) v1).mo (fun σ2 v g => ?_)
      obtain ⟨g1, g2, g3⟩ := g
      have e : pwf 5 (k + 1) y = ((pwf 5 k (y / 5)).1 + 1, (pwf 5 k (y / 5)).2) := by
        show (if y % 5 = 0 then _ else _) = _
        rw [if_pos c]
      rw [e]
      refine ⟨?_, r1.tr g2, g3⟩
      rw [g1]
      show nI (if A ≤ x + 1 + (pwf 5 k (y / 5)).1 then x + 1 + (pwf 5 k (y / 5)).1 else A) = nI (if A ≤ x + ((pwf 5 k (y / 5)).1 + 1) then x + ((pwf 5 k (y / 5)).1 + 1) else A)
      rw [show x + 1 + (pwf 5 k (y / 5)).1 = x + ((pwf 5 k (y / 5)).1 + 1) by omega]
    · rw [pwf_0 c]
      refine Hx.ce (sm_le (by omega) (by omega)) (fun c2 => ?_) (fun c2 => ?_)
      · refine Hx.ret ⟨?_, rfR.rf, hV⟩
        show nI x = nI (if A ≤ x + 0 then x + 0 else A)
        rw [Nat.add_zero, if_pos c2]
      · refine Hx.ret ⟨?_, rfR.rf, hV⟩
        show nI A = nI (if A ≤ x + 0 then x + 0 else A)
        rw [Nat.add_zero, if_neg c2]
theorem rf_ah_15 {m : Nat} : ∀ (k n x y : Nat) (σ : St), k < n → 0 < y → y < 2 ^ k → x + k ≤ 110 → MS σ m → Rv σ m 14 y → Hx (fX12_aheadLength_15 n σ m (nI x) (nI 0)) (fun σ' v => v = nI (if x + (pwf 2 k y).1 ≤ (pwf 5 110 (pwf 2 k y).2).1 then (pwf 5 110 (pwf 2 k y).2).1 else x + (pwf 2 k y).1) ∧ rfR m [14] σ σ' ∧ Rv σ' m 14 (pwf 5 110 (pwf 2 k y).2).2) := by
  intro k
  induction k with
  | zero => intro n x y σ h1 h2 h3; rw [Nat.pow_zero] at h3; omega
  | succ k ih =>
    intro n x y σ hn h0 hy hx hm hV
    obtain ⟨n, rfl⟩ : ∃ j, n = j + 1 := ⟨n - 1, by omega⟩
    have hmod := Nat.mod_lt y (show 0 < 10000 by omega)
    rw [n_fX12_aheadLength_15, rf_ck hm]
    refine hx_bs ?_
    rw [rf_limb hm (by omega) (by omega) hV, dq_0]
    refine hx_cs ?_
    rw [sm_div (by omega) (by omega) (by omega), sm_mul, sm_sub (by omega)]
    have e5 : y % 10000 - y % 10000 / 2 * 2 = y % 2 := by omega
    rw [e5]
    refine Hx.ce (sm_eq (by omega) (by omega)) (fun c => ?_) (fun c => ?_)
    · have hp : 0 < y / 2 := by omega
      rw [Nat.pow_succ] at hy
      rw [rf_ck hm]
      refine hx_bs ?_
      obtain ⟨σ1, e1, r1, v1⟩ := rf_shortens (t := 14) (c := 2) hm (by omega) (by omega) (by omega) hV
      rw [e1]
      refine hx_cs ?_
      refine hx_nm ?_
      rw [sm_add]
      refine (ih n (x + 1) (y / 2) σ1 (by omega) hp (by omega) (by omega) (r1.ms hm) v1).mo (fun σ2 v g => ?_)
      obtain ⟨g1, g2, g3⟩ := g
      have e : pwf 2 (k + 1) y = ((pwf 2 k (y / 2)).1 + 1, (pwf 2 k (y / 2)).2) := by
        show (if y % 2 = 0 then _ else _) = _
        rw [if_pos c]
      rw [e]
      refine ⟨?_, r1.tr g2, g3⟩
      rw [g1]
      show nI (if x + 1 + (pwf 2 k (y / 2)).1 ≤ (pwf 5 110 (pwf 2 k (y / 2)).2).1 then (pwf 5 110 (pwf 2 k (y / 2)).2).1 else x + 1 + (pwf 2 k (y / 2)).1) = nI (if x + ((pwf 2 k (y / 2)).1 + 1) ≤ (pwf 5 110 (pwf 2 k (y / 2)).2).1 then (pwf 5 110 (pwf 2 k (y / 2)).2).1 else x + ((pwf 2 k (y / 2)).1 + 1))
      rw [show x + 1 + (pwf 2 k (y / 2)).1 = x + ((pwf 2 k (y / 2)).1 + 1) by omega]
    · rw [pwf_0 c]
      have hle : 2 ^ (k + 1) ≤ 2 ^ 110 := Nat.pow_le_pow_right (by omega) (by omega)
      refine (rf_ah_41 (A := x) (by omega) 110 FU 0 y σ (by unfold FU; omega) h0 (by omega) (by omega) hm hV).mo (fun σ2 v g => ?_)
      obtain ⟨g1, g2, g3⟩ := g
      refine ⟨?_, g2, g3⟩
      rw [g1, Nat.zero_add]
      rfl
theorem rf_aheadLength {σ : St} {m i : Nat} {q : Qv} (hm : MS σ m) (h57 : Fi σ m 57 (nI i)) (hV : Vl σ m i q) (hi : i < 12600) : Hx (fX12_aheadLength σ m) (fun σ' v => v = nI (ahl q.2.2) ∧ rfM m [] [1, 2] nV σ σ' ∧ Rv σ' m 14 (cory q.2.2)) := by
  have hd := dig30_2
  have hq := hV.1
  have h9 := hq.2.2.2.2.2
  rw [n_fX12_aheadLength, fi_g hm h57]
  refine hx_bs ?_
  rw [rf_ck hm]
  refine hx_bs ?_
  obtain ⟨σ2, e2, r2, v2⟩ := rf_loads (r := 14) hm (by omega) hi hV 1 (by omega)
  rw [e2]
  refine hx_cs ?_
  have v2 : Rv σ2 m 14 q.2.2 := v2
  refine (rf_ah_15 110 FU 0 q.2.2 σ2 (by unfold FU; omega) hq.2.2.1 (by omega) (by omega) (r2.ms hm) v2).mo (fun σ3 v g => ?_)
  obtain ⟨g1, g2, g3⟩ := g
  refine ⟨?_, (r2.tr g2).M, g3⟩
  rw [g1]
  unfold ahl fivy twoy
  rw [Nat.zero_add]
theorem rf_isOne {σ : St} {m r x : Nat} (hm : MS σ m) (hr : r < 15) (hV : Rv σ m r x) : fX12_isOne σ m (nI r) = some (σ, nI (if x = 1 then 1 else 0)) := by
  obtain ⟨w, ⟨h1, h2, h3⟩, h4, h5⟩ := hV
  apply hx_eq
  rw [n_fX12_isOne, rf_wide hm]
  refine hx_bs ?_
  rw [ld_wide hm hr, h1]
  refine hx_bs ?_
  refine Hx.ce (sm_eq (by omega) (by omega)) (fun c => ?_) (fun c => ?_)
  · subst c
    have hx : x < 10000 := by rw [Nat.pow_one] at h3; exact h3
    rw [rf_big hm]
    refine hx_bs ?_
    have h20 := h2 0 (by omega)
    rw [dq_0, Nat.mod_eq_of_lt hx] at h20
    have this : sA σ (m + 1) (1000 * r) = nI x := h20
    rw [sm_mul, ld_big hm (by omega), this]
    refine hx_bs ?_
    refine Hx.ce (sm_eq (by omega) (by omega)) (fun c2 => ?_) (fun c2 => ?_)
    · rw [if_pos c2]; exact Hx.ret ⟨rfl, rfl⟩
    · rw [if_neg c2]; exact Hx.ret ⟨rfl, rfl⟩
  · have hx : x ≠ 1 := by
      intro q
      subst q
      rcases h5 with h5 | h5
      · subst h5; rw [Nat.pow_zero] at h3; omega
      · have : w - 1 = 0 := by
          rcases Nat.eq_zero_or_pos (w - 1) with z | z
          · exact z
          · have := Nat.pow_le_pow_right (show 0 < 10000 by omega) z
            rw [Nat.pow_one] at this
            have h5 : 10000 ^ (w - 1) ≤ 1 := h5
            omega
        have : w = 0 := by omega
        subst this
        rw [Nat.pow_zero] at h3
        omega
    rw [if_neg hx]
    exact Hx.ret ⟨rfl, rfl⟩
/-- how long the part is that repeats: the powers of 10 -/
def rpf (c : Nat) : Nat → Nat → Nat → Int
  | 0, _, _ => -1
  | n + 1, k, p => if p * 10 % c = 1 then (k : Int) else rpf c n (k + 1) (p * 10 % c)
def rpt (c : Nat) : Int := if c = 1 then 0 else rpf c 1000 1 1
theorem rf_rep_25 {m c : Nat} (hc : 0 < c ∧ c < dig30) : ∀ (j n k p : Nat) (σ : St), j < n → k + j = 1001 → p < dig30 → MS σ m → Rv σ m 13 p → Rv σ m 14 c → Hx (fX12_repeats_25 n σ m (nI k)) (fun σ' v => v = iz (rpf c j k p) ∧ rfR m [9, 10, 11, 13] σ σ') := by
  have hd8 := dig30_lt
  intro j
  induction j with
  | zero =>
    intro n k p σ hn hk hp hm hA hB
    obtain ⟨n, rfl⟩ : ∃ j, n = j + 1 := ⟨n - 1, by omega⟩
    rw [n_fX12_repeats_25]
    refine Hx.ce (sm_lt (by omega) (by omega)) (fun _ => ?_) (fun z => absurd z (by omega))
    exact Hx.ret ⟨rfl, rfR.rf⟩
  | succ j ih =>
    intro n k p σ hn hk hp hm hA hB
    obtain ⟨n, rfl⟩ : ∃ j, n = j + 1 := ⟨n - 1, by omega⟩
    rw [n_fX12_repeats_25]
    refine Hx.ce (sm_lt (by omega) (by omega)) (fun z => absurd z (by omega)) (fun _ => ?_)
    rw [rf_ck hm]
    refine hx_bs ?_
    obtain ⟨σ1, e1, r1, v1⟩ := rf_times (t := 13) (c := 10) (u := 8) hm (by omega) (by omega) (by omega) (by omega) hA
    rw [e1]
    refine hx_cs ?_
    have m1 := r1.ms hm
    rw [rf_ck m1]
    refine hx_bs ?_
    have hp9 : p * 10 < 10000 ^ 9 := by
      have : 10000 ^ 9 = 10000 ^ 8 * 10000 := rfl
      omega
    obtain ⟨σ2, e2, r2, v2, v3⟩ := rf_divides (a := 13) (b := 14) (u := 9) m1 (by omega) (by omega) (by omega) (by omega) (by omega) hp9 hc.1 v1 (hB.keep r1 (by decide))
    rw [e2]
    refine hx_cs ?_
    have m2 := r2.ms m1
    rw [rf_ck m2]
    refine hx_bs ?_
    obtain ⟨σ3, e3, r3, v4⟩ := rf_copies (t := 13) (f := 10) m2 (by omega) (by omega) (by omega) v3
    rw [e3]
    refine hx_cs ?_
    have m3 := r3.ms m2
    have r13 : rfR m [9, 10, 11, 13] σ σ3 := (r1.mo (by decide)).tr ((r2.mo (by decide)).tr (r3.mo (by decide)))
    rw [rf_ck m3]
    refine hx_bs ?_
    rw [rf_isOne m3 (by omega) v4]
    refine hx_cs ?_
    have hlt := Nat.mod_lt (p * 10) hc.1
    have e : rpf c (j + 1) k p = if p * 10 % c = 1 then (k : Int) else rpf c j (k + 1) (p * 10 % c) := rfl
    rw [e]
    by_cases c1 : p * 10 % c = 1
    · rw [if_pos c1, if_pos c1]
      refine Hx.ce (sm_eq (show 1 < 2147483648 by omega) (by omega)) (fun z => absurd z (by omega)) (fun _ => ?_)
      exact Hx.ret ⟨sm_iz k, r13⟩
    · rw [if_neg c1, if_neg c1]
      refine Hx.ce rfl (fun _ => ?_) (fun z => absurd rfl z)
      refine hx_nm ?_
      rw [sm_add]
      refine (ih n (k + 1) (p * 10 % c) σ3 (by omega) (by omega) (by omega) m3 v4 (hB.keep r13 (by decide))).mo (fun σ4 v g => ⟨g.1, r13.tr g.2⟩)
theorem cory_b {y : Nat} (h : 0 < y) : 0 < cory y ∧ cory y ≤ y := by
  have h1 := pwf_pos (c := 2) (by omega) 110 y h
  have h2 := pwf_pos (c := 5) (by omega) 110 (twoy y).2 h1.1
  exact ⟨h2.1, Nat.le_trans h2.2.1 h1.2.1⟩
theorem rf_repeats {σ : St} {m i : Nat} {q : Qv} (hm : MS σ m) (h57 : Fi σ m 57 (nI i)) (hV : Vl σ m i q) (hi : i < 12600) : Hx (fX12_repeats σ m) (fun σ' v => v = iz (rpt (cory q.2.2)) ∧ rfM m [] [1, 2] nV σ σ') := by
  have hq := hV.1
  have hc := cory_b hq.2.2.1
  rw [n_fX12_repeats, rf_ck hm]
  refine hx_bs ?_
  refine Hx.bd (rf_aheadLength hm h57 hV hi) (fun σ1 v g => ?_)
  obtain ⟨rfl, r1, v1⟩ := g
  have m1 := r1.ms hm
  rw [rf_ck m1]
  refine hx_bs ?_
  rw [rf_isOne m1 (by omega) v1]
  refine hx_cs ?_
  unfold rpt
  by_cases c1 : cory q.2.2 = 1
  · rw [if_pos c1, if_pos c1]
    refine Hx.ce (sm_eq (show 1 < 2147483648 by omega) (by omega)) (fun z => absurd z (by omega)) (fun _ => ?_)
    exact Hx.ret ⟨rfl, r1⟩
  · rw [if_neg c1, if_neg c1]
    refine Hx.ce rfl (fun _ => ?_) (fun z => absurd rfl z)
    rw [rf_ck m1]
    refine hx_bs ?_
    obtain ⟨σ2, e2, r2, v2⟩ := rf_puts (r := 13) (v := 1) m1 (by omega) (by omega)
    rw [e2]
    refine hx_cs ?_
    refine (rf_rep_25 (c := cory q.2.2) ⟨hc.1, by have := hq.2.2.2.2.2; omega⟩ 1000 FU 1 1 σ2 (by unfold FU; omega) rfl (by unfold dig30; omega) (r2.ms m1) v2 (v1.keep r2 (by decide))).mo (fun σ3 v g => ⟨g.1, r1.tr (r2.M.tr g.2.M)⟩)
theorem ri_ends {σ : St} {m : Nat} {c : Rct} {s : Rst} (h : RI σ m c s) : Hx (fX12_ends σ m) (RV m c s (if cory s.2.2.2.1.2.2 = 1 then 1 else 0) s σ) := by
  rw [n_fX12_ends]
  refine rf_set0 h.1.1 (fun σ1 r1 m1 f0 => ?_)
  have h1 := h.k0 r1
  obtain ⟨ai, a1, a2⟩ := h1.2.1.1
  rw [rf_ck m1]
  refine hx_bs ?_
  refine Hx.bd (rf_aheadLength m1 a1 a2.2 (by have := a2.1; omega)) (fun σ2 _ g => ?_)
  obtain ⟨_, r2, v2⟩ := g
  rw [rf_ck (r2.ms m1)]
  refine hx_bs ?_
  rw [rf_isOne (r2.ms m1) (by omega) v2]
  refine hx_cs ?_
  by_cases c1 : cory s.2.2.2.1.2.2 = 1
  · rw [if_pos c1, if_pos c1, ckZ1]
    exact hx_bs (Hx.ret ⟨r1.1.tr r2.1, rfl, c, h1.k12 r2, RBd.rf rfl⟩)
  · rw [if_neg c1, if_neg c1, ckZ0]
    exact hx_bs (Hx.ret ⟨r1.1.tr r2.1, rfl, c, h1.k12 r2, RBd.rf rfl⟩)
theorem ri_ahead {σ : St} {m : Nat} {c : Rct} {s : Rst} (h : RI σ m c s) : Hx (fX12_ahead σ m) (RV m c s (ahl s.2.2.2.1.2.2) s σ) := by
  rw [n_fX12_ahead]
  refine rf_set0 h.1.1 (fun σ1 r1 m1 f0 => ?_)
  have h1 := h.k0 r1
  obtain ⟨ai, a1, a2⟩ := h1.2.1.1
  rw [rf_ck m1]
  refine hx_bs ?_
  refine Hx.bd (rf_aheadLength m1 a1 a2.2 (by have := a2.1; omega)) (fun σ2 _ g => ?_)
  obtain ⟨rfl, r2, v2⟩ := g
  exact Hx.ret ⟨r1.1.tr r2.1, sm_iz _, c, h1.k12 r2, RBd.rf rfl⟩
theorem ri_repeating {σ : St} {m : Nat} {c : Rct} {s : Rst} (h : RI σ m c s) : Hx (fX12_repeating σ m) (RV m c s (rpt (cory s.2.2.2.1.2.2)) s σ) := by
  rw [n_fX12_repeating]
  refine rf_set0 h.1.1 (fun σ1 r1 m1 f0 => ?_)
  have h1 := h.k0 r1
  obtain ⟨ai, a1, a2⟩ := h1.2.1.1
  rw [rf_ck m1]
  refine hx_bs ?_
  refine Hx.bd (rf_repeats m1 a1 a2.2 (by have := a2.1; omega)) (fun σ2 _ g => ?_)
  obtain ⟨rfl, r2⟩ := g
  exact Hx.ret ⟨r1.1.tr r2.1, rfl, c, h1.k12 r2, RBd.rf rfl⟩
