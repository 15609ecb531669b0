/-! ===== a number's digits; the reference writes them ===== -/
def dlf : Nat → Nat → List Nat
  | 0, _ => []
  | n + 1, y => if y = 0 then [] else dlf n (y / 10) ++ [y % 10]
theorem dlf_fuel : ∀ (n k y : Nat), y < 10 ^ n → y < 10 ^ k → dlf n y = dlf k y := by
  intro n
  induction n with
  | zero =>
    intro k y h1 h2
    have : y = 0 := by rw [Nat.pow_zero] at h1; omega
    subst this
    cases k with
    | zero => rfl
    | succ k => rfl
  | succ n ih =>
    intro k y h1 h2
    cases k with
    | zero =>
      have : y = 0 := by rw [Nat.pow_zero] at h2; omega
      subst this
      rfl
    | succ k =>
      unfold dlf
      by_cases c : y = 0
      · rw [if_pos c, if_pos c]
      · rw [if_neg c, if_neg c, ih k (y / 10) (by rw [Nat.pow_succ] at h1; omega) (by rw [Nat.pow_succ] at h2; omega)]
theorem dlf_len : ∀ (n y : Nat), (dlf n y).length ≤ n := by
  intro n
  induction n with
  | zero => intro y; exact Nat.le_refl _
  | succ n ih =>
    intro y
    unfold dlf
    split
    · exact Nat.zero_le _
    · rw [List.length_append, List.length_singleton]
      have := ih (y / 10)
      omega
/-- the digits, from the highest; none of 0 -/
def dl (y : Nat) : List Nat := dlf 60 y
theorem dl_0 : dl 0 = [] := rfl
theorem dl_st {y : Nat} (h : y < 10 ^ 59) (h0 : y ≠ 0) : dl y = dl (y / 10) ++ [y % 10] := by
  have e : dl y = dlf 59 (y / 10) ++ [y % 10] := by
    show dlf 60 y = _
    rw [dlf, if_neg h0]
  rw [e]
  congr 1
  exact dlf_fuel 59 60 _ (by omega) (by omega)
theorem dl_len {y n : Nat} (h : y < 10 ^ n) (hn : n ≤ 60) : (dl y).length ≤ n := by
  have : dl y = dlf n y := dlf_fuel 60 n y (Nat.lt_of_lt_of_le h (Nat.pow_le_pow_right (by omega) hn)) h
  rw [this]
  exact dlf_len n y
/-- the digits as they are written -/
def dgx (y : Nat) : List Nat := if y = 0 then [0] else dl y
def cod (l : List Nat) : List Nat := l.map (48 + ·)
theorem cod_app (a b : List Nat) : cod (a ++ b) = cod a ++ cod b := List.map_append
theorem cod_len (a : List Nat) : (cod a).length = a.length := List.length_map ..
theorem dig30_36 : dig30 < 10 ^ 36 := by unfold dig30; omega
/-- a draft -/
def RDr (σ : St) (m : Nat) (D : List Nat) : Prop := Fi σ m 77 (nI D.length) ∧ D.length ≤ 1200 ∧ ∀ i c, D[i]? = some c → sA σ (m + 42) i = nI c
theorem RDr.keep {σ σ' : St} {m : Nat} {D : List Nat} {F A : List Nat} {V : Nat → Prop} (h : RDr σ m D) (hR : rfM m F A V σ σ') (hF : 77 ∉ F) (hA : 42 ∉ A) : RDr σ' m D :=
  ⟨h.1.keep hR hF, h.2.1, fun i c hc => by rw [hR.ar 42 ⟨hA, by omega, by omega⟩]; exact h.2.2 i c hc⟩
theorem Rv.kM {σ σ' : St} {m r x : Nat} {F A : List Nat} {V : Nat → Prop} (h : Rv σ m r x) (hR : rfM m F A V σ σ') (hA : 1 ∉ A ∧ 2 ∉ A) : Rv σ' m r x := by
  obtain ⟨w, ⟨h1, h2, h3⟩, h4⟩ := h
  refine ⟨w, ⟨?_, fun k hk => ?_, h3⟩, h4⟩
  · rw [hR.ar 2 ⟨hA.2, by omega, by omega⟩]; exact h1
  · rw [hR.ar 1 ⟨hA.1, by omega, by omega⟩]; exact h2 k hk
theorem rf_writes {σ : St} {m c : Nat} {D : List Nat} (hm : MS σ m) (hD : RDr σ m D) (hl : D.length < 1200) : Hx (fX12_writes σ m (nI c)) (fun σ' _ => rfM m [77] [42] nV σ σ' ∧ RDr σ' m (D ++ [c])) := by
  rw [n_fX12_writes, rf_draft hm]
  refine hx_bs ?_
  rw [fi_g hm hD.1]
  refine hx_bs ?_
  rw [st_draft hm hl]
  refine hx_bs ?_
  obtain ⟨σa, ea⟩ : ∃ s', s' = wA σ (m + 42) D.length (nI c) := ⟨_, rfl⟩
  have wa : rfM m [77] [42] nV σ σa := by rw [ea]; exact rfM.wA (by simp) (by omega)
  have ma := wa.ms hm
  have a8 : Fi σa m 77 (nI D.length) := by rw [ea]; exact fi_wA hD.1
  rw [← ea, fi_g ma a8]
  refine hx_bs ?_
  rw [sm_add, rf_pI ma]
  refine hx_bs ?_
  refine Hx.ret ⟨wa.tr (rfM.wI (by simp)), by rw [List.length_append]; exact fi_wI, by rw [List.length_append]; exact hl, fun i x hi => ?_⟩
  have e5 : ∀ i, sA (wI σa (fid 16 77) m (nI (D.length + 1))) (m + 42) i = if i = D.length then nI c else sA σ (m + 42) i := by
    intro i
    show sA σa (m + 42) i = _
    rw [ea]
    split
    · rename_i q; rw [q, sA_wA_eq]
    · rename_i q; rw [sA_wA_j q]
  rw [e5]
  by_cases ci : i = D.length
  · rw [if_pos ci]
    rw [ci, List.getElem?_append_right (Nat.le_refl _), Nat.sub_self] at hi
    cases hi
    rfl
  · rw [if_neg ci]
    have hil := (List.getElem?_eq_some_iff.mp hi).1
    rw [List.length_append, List.length_singleton] at hil
    rw [List.getElem?_append_left (by omega)] at hi
    exact hD.2.2 i x hi
theorem dq_dig (x k : Nat) {j : Nat} (hj : j = 0 ∨ j = 1 ∨ j = 2 ∨ j = 3) : dq x k % 10000 / 10 ^ j % 10 = x / 10 ^ (4 * k + j) % 10 := by
  have e : x / 10 ^ (4 * k + j) = dq x k / 10 ^ j := by
    unfold dq
    rw [Nat.div_div_eq_div_mul, Nat.pow_add, Nat.pow_mul]
  rw [e]
  generalize dq x k = a
  rcases hj with rfl | rfl | rfl | rfl <;> simp <;> omega
theorem or_01 {a b : Nat} (ha : a ≤ 1) (hb : b ≤ 1) : nI a ||| nI b = nI (if a = 0 ∧ b = 0 then 0 else 1) := by
  have h1 : a = 0 ∨ a = 1 := by omega
  have h2 : b = 0 ∨ b = 1 := by omega
  rcases h1 with rfl | rfl <;> rcases h2 with rfl | rfl <;> rfl
theorem wn_step {m r k j b x n : Nat} {D0 : List Nat} {σ : St} {P : St → Unit → Prop} {k11 : St → Nat → Int32 → Int32 → Int32 → Option (St × Unit)} (hm : MS σ m) (hr : r < 15) (hk : k < 1000) (hj : j = 0 ∨ j = 1 ∨ j = 2 ∨ j = 3) (hw : sA σ (m + 1) (1000 * r + k) = nI (dq x k % 10000)) (hD : RDr σ m (D0 ++ cod (dl (x / 10 ^ (4 * k + j + 1))))) (hb : b = if x / 10 ^ (4 * k + j + 1) = 0 then 0 else 1) (hl : D0.length + 40 ≤ 1200) (hx : x < 10 ^ 36)
    (hK : ∀ σ' b', MS σ' m → rfM m [77] [42] nV σ σ' → RDr σ' m (D0 ++ cod (dl (x / 10 ^ (4 * k + j)))) → (b' = if x / 10 ^ (4 * k + j) = 0 then 0 else 1) → Hx (fX12_writesNumber_20 k11 n σ' m (nI r) (nI b') (nI k) (nI (10 ^ j / 10))) P) : Hx (fX12_writesNumber_20 k11 (n + 1) σ m (nI r) (nI b) (nI k) (nI (10 ^ j))) P := by
  have hp : 0 < 10 ^ j ∧ 10 ^ j ≤ 1000 := by rcases hj with rfl | rfl | rfl | rfl <;> decide
  have hdig := dq_dig x k hj
  have hy : x / 10 ^ (4 * k + j + 1) = x / 10 ^ (4 * k + j) / 10 := by rw [Nat.pow_succ, Nat.div_div_eq_div_mul]
  have hyl : x / 10 ^ (4 * k + j) < 10 ^ 36 := Nat.lt_of_le_of_lt (Nat.div_le_self _ _) hx
  rw [hy] at hD hb
  generalize x / 10 ^ (4 * k + j) = y at hD hb hK hdig hyl
  have hq : dq x k % 10000 / 10 ^ j < 10000 := Nat.lt_of_le_of_lt (Nat.div_le_self _ _) (Nat.mod_lt _ (by omega))
  rw [n_fX12_writesNumber_20]
  refine Hx.ce (sm_le (by omega) (by omega)) (fun z => absurd z (by omega)) (fun _ => ?_)
  rw [rf_big hm]
  refine hx_bs ?_
  rw [sm_mul, sm_add, ld_big hm (by omega), hw]
  refine hx_bs ?_
  rw [ckD_ok hp.1 (by omega)]
  refine hx_bs ?_
  rw [sm_div (by omega) hp.1 (by omega), sm_div (by omega) (by omega) (by omega), sm_mul, sm_sub (by omega)]
  refine hx_nm ?_
  have ed : dq x k % 10000 / 10 ^ j - dq x k % 10000 / 10 ^ j / 10 * 10 = y % 10 := by omega
  rw [ed]
  have hy36 : y < 10 ^ 59 := by omega
  have hbl : b ≤ 1 := by rw [hb]; split <;> omega
  have fin : ∀ (d1 : Nat), d1 ≤ 1 → (d1 = 0 ↔ y % 10 = 0) → Hx (fX12_writesNumber_56 k11 (fX12_writesNumber_20 k11 n) σ m (nI r) (nI k) (nI (10 ^ j)) (nI (y % 10)) (nI b) (nI d1)) P := by
    intro d1 h1 h2
    rw [n_fX12_writesNumber_56, or_01 hbl h1]
    refine hx_nm ?_
    by_cases c : b = 0 ∧ d1 = 0
    · rw [if_pos c]
      have b0 : y / 10 = 0 := by
        have := hb.symm.trans c.1
        split at this
        · assumption
        · omega
      have y0 : y = 0 := by have := h2.mp c.2; omega
      refine Hx.ce rfl (fun _ => ?_) (fun z => absurd rfl z)
      rw [n_fX12_writesNumber_71]
      refine hx_nm ?_
      rw [sm_div (by omega) (by omega) (by omega)]
      subst y0
      exact hK σ 0 hm rfM.rf hD rfl
    · rw [if_neg c]
      have y0 : y ≠ 0 := by
        intro q
        refine c ⟨?_, h2.mpr (by omega)⟩
        rw [hb, q]
        rfl
      refine Hx.ce (sm_eq (show 1 < 2147483648 by omega) (by omega)) (fun z => absurd z (by omega)) (fun _ => ?_)
      rw [rf_ck hm]
      refine hx_bs ?_
      rw [sm_add]
      have hlen : (dl (y / 10)).length ≤ 36 := dl_len (by omega) (by omega)
      refine Hx.bd (rf_writes hm hD (by rw [List.length_append, cod_len]; omega)) (fun σ2 _ g => ?_)
      rw [n_fX12_writesNumber_71]
      refine hx_nm ?_
      rw [sm_div (by omega) (by omega) (by omega)]
      refine hK σ2 1 (g.1.ms hm) g.1 ?_ (by rw [if_neg y0])
      rw [dl_st hy36 y0, cod_app, ← List.append_assoc]
      exact g.2
  refine Hx.ce (sm_le (by omega) (by omega)) (fun c => ?_) (fun c => ?_)
  · exact fin 0 (by omega) (by omega)
  · exact fin 1 (by omega) (by omega)
theorem wn_loop {m r w x : Nat} {D0 : List Nat} {σ0 : St} (hr : r < 15) (hw : w ≤ 990) (hx : x < 10 ^ 36) (hl : D0.length + 40 ≤ 1200) : ∀ (k n : Nat) (σ : St) (b : Nat), k < n → k ≤ w → MS σ m → Ru σ m r w x → rfM m [77] [42] nV σ0 σ → RDr σ m (D0 ++ cod (dl (x / 10 ^ (4 * k)))) → (b = if x / 10 ^ (4 * k) = 0 then 0 else 1) →
    Hx (fX12_writesNumber_11 n σ m (nI r) (nI b) (iz ((k : Int) - 1))) (fun σ' _ => rfM m [77] [42] nV σ0 σ' ∧ RDr σ' m (D0 ++ cod (dgx x))) := by
  intro k
  induction k with
  | zero =>
    intro n σ b hn hk hm hU hR hD hb
    obtain ⟨n, rfl⟩ : ∃ j, n = j + 1 := ⟨n - 1, by omega⟩
    rw [Nat.mul_zero, Nat.pow_zero, Nat.div_one] at hD hb
    rw [n_fX12_writesNumber_11, show nI 0 = iz 0 from rfl]
    refine Hx.ce (iz_lt (by omega) (by omega) (by omega) (by omega)) (fun _ => ?_) (fun z => absurd z (by omega))
    by_cases c : x = 0
    · rw [if_pos c] at hb
      subst hb
      refine Hx.ce rfl (fun _ => ?_) (fun z => absurd rfl z)
      rw [rf_ck hm]
      refine hx_bs ?_
      subst c
      refine Hx.bd (rf_writes (D := D0) hm (by rw [dl_0] at hD; have : D0 ++ cod [] = D0 := List.append_nil _; rw [this] at hD; exact hD) (by omega)) (fun σ2 _ g => ?_)
      exact Hx.ret ⟨hR.tr g.1, g.2⟩
    · rw [if_neg c] at hb
      subst hb
      refine Hx.ce (show (nI 1 = iz 0) = ((1 : Nat) = 0) from sm_eq (a := 1) (b := 0) (by omega) (by omega)) (fun z => absurd z (by omega)) (fun _ => ?_)
      refine Hx.ret ⟨hR, ?_⟩
      unfold dgx
      rw [if_neg c]
      exact hD
  | succ k ih =>
    intro n σ b hn hk hm hU hR hD hb
    obtain ⟨n, rfl⟩ : ∃ j, n = j + 1 := ⟨n - 1, by omega⟩
    rw [n_fX12_writesNumber_11, show ((k + 1 : Nat) : Int) - 1 = (k : Int) by omega, ← sm_iz]
    refine Hx.ce (sm_lt (by omega) (by omega)) (fun z => absurd z (by omega)) (fun _ => ?_)
    have e36 : ∀ σ', rfM m [77] [42] nV σ σ' → sA σ' (m + 1) (1000 * r + k) = nI (dq x k % 10000) := fun σ' r' => by
      rw [r'.ar 1 ⟨by decide, by omega, by omega⟩]
      exact hU.2.1 k (by omega)
    have eF : FU = (FU - 5) + 1 + 1 + 1 + 1 + 1 := by unfold FU; omega
    rw [eF, show (1000 : Nat) = 10 ^ 3 from rfl]
    refine wn_step hm hr (by omega) (by omega) (e36 σ rfM.rf) (by rw [show 4 * k + 3 + 1 = 4 * (k + 1) by omega]; exact hD) (by rw [show 4 * k + 3 + 1 = 4 * (k + 1) by omega]; exact hb) hl hx (fun σ1 b1 m1 r1 d1 hb1 => ?_)
    rw [show 10 ^ 3 / 10 = 10 ^ 2 from rfl]
    refine wn_step m1 hr (by omega) (by omega) (e36 σ1 r1) d1 hb1 hl hx (fun σ2 b2 m2 r2 d2 hb2 => ?_)
    rw [show 10 ^ 2 / 10 = 10 ^ 1 from rfl]
    refine wn_step m2 hr (by omega) (by omega) (e36 σ2 (r1.tr r2)) d2 hb2 hl hx (fun σ3 b3 m3 r3 d3 hb3 => ?_)
    rw [show 10 ^ 1 / 10 = 10 ^ 0 from rfl]
    refine wn_step m3 hr (by omega) (by omega) (e36 σ3 ((r1.tr r2).tr r3)) d3 hb3 hl hx (fun σ4 b4 m4 r4 d4 hb4 => ?_)
    rw [show 10 ^ 0 / 10 = 0 from rfl, n_fX12_writesNumber_20]
    refine Hx.ce (sm_le (by omega) (by omega)) (fun _ => ?_) (fun z => absurd (Nat.le_refl _) z)
    refine hx_nm ?_
    rw [show nI k + iz (-1) = iz ((k : Int) - 1) by rw [sm_iz, iz_add]; rfl]
    have r14 := ((r1.tr r2).tr r3).tr r4
    have hU4 : Ru σ4 m r w x := ⟨by rw [r14.ar 2 ⟨by decide, by omega, by omega⟩]; exact hU.1, fun i hi => by rw [r14.ar 1 ⟨by decide, by omega, by omega⟩]; exact hU.2.1 i hi, hU.2.2⟩
    exact ih n σ4 b4 (by omega) (by omega) m4 hU4 (hR.tr r14) d4 hb4
theorem rf_writesNumber {m r x : Nat} {D0 : List Nat} {σ : St} (hm : MS σ m) (hr : r < 15) (hx : x < 10 ^ 36) (hV : Rv σ m r x) (hD : RDr σ m D0) (hl : D0.length + 40 ≤ 1200) : Hx (fX12_writesNumber σ m (nI r)) (fun σ' _ => rfM m [77] [42] nV σ σ' ∧ RDr σ' m (D0 ++ cod (dgx x))) := by
  obtain ⟨w, hU, hw, _⟩ := hV
  rw [n_fX12_writesNumber, rf_wide hm]
  refine hx_bs ?_
  rw [ld_wide hm hr, hU.1]
  refine hx_bs ?_
  rw [nI_prz]
  refine hx_nm ?_
  have hz : x / 10 ^ (4 * w) = 0 := by
    rw [Nat.pow_mul]
    exact Nat.div_eq_of_lt hU.2.2
  refine wn_loop hr hw hx hl w FU σ 0 (by unfold FU; omega) (Nat.le_refl _) hm hU rfM.rf ?_ ?_
  · rw [hz, dl_0]
    have : D0 ++ cod [] = D0 := List.append_nil _
    rw [this]
    exact hD
  · rw [if_pos hz]
