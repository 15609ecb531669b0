/-! ===== the class' Reader makes a number ===== -/
theorem RT.kW {σ σ' : St} {x k c : Nat} {t : List Nat} {S : Nat → Prop} (h : RT σ x t) (hF : cW x S k c σ σ') (hx : XS σ x) (h1 : ¬ S (x + 65)) (h2 : ¬ S (x + 66)) : RT σ' x t := by
  have k9 := hx.k9
  have k66 : sK σ (x + 66) = 100 := hx.kd 66 100 (by decide)
  have s1 := hF.sam (a := x + 65) (by omega) (Or.inl (by omega)) h1
  have s2 := hF.sam (a := x + 66) (by omega) (Or.inr (hx.2.2.2.2 66 (by decide))) h2
  exact ⟨⟨by rw [s1.1]; exact h.1.1, h.1.2⟩, fun i b hb => by rw [s2.2.2.1]; exact h.2.1 i b hb, h.2.2⟩
theorem dgf_app {t : List Nat} : ∀ (j k p n : Nat), dgf t (j + k) p n = dgf t k (p + j) (dgf t j p n) := by
  intro j
  induction j with
  | zero => intro k p n; rw [Nat.zero_add]; rfl
  | succ j ih =>
    intro k p n
    rw [show j + 1 + k = (j + k) + 1 by omega]
    show dgf t (j + k) (p + 1) _ = dgf t k (p + (j + 1)) (dgf t j (p + 1) _)
    rw [ih, show p + 1 + j = p + (j + 1) by omega]
theorem dgf_b {t : List Nat} : ∀ (k p n : Nat), dgf t k p n < (n + 1) * 10 ^ k := by
  intro k
  induction k with
  | zero => intro p n; show n < (n + 1) * 1; omega
  | succ k ih =>
    intro p n
    show dgf t k (p + 1) _ < _
    refine Nat.lt_of_lt_of_le (ih (p + 1) _) ?_
    rw [Nat.pow_succ, Nat.mul_comm (10 ^ k) 10, ← Nat.mul_assoc]
    refine Nat.mul_le_mul_right _ ?_
    split
    · rename_i c
      have := isD_i.mp c
      omega
    · omega
theorem dgf_1 {t : List Nat} {p n : Nat} : dgf t 1 p n = if isD (tb t p) = true then 10 * n + (tb t p - 48) else n := rfl
theorem eN_a {t : List Nat} {s e : Nat} (h : eN t s = some e) : ew isD t s - s ≤ 12 ∧ (tb t (ew isD t s) = 46 → ew isD t (ew isD t s + 1) - ew isD t s ≤ 7 ∧ ew isD t s < t.length ∧ (tb t (ew isD t (ew isD t s + 1)) = 91 → ew isD t (ew isD t (ew isD t s + 1) + 1) - ew isD t (ew isD t s + 1) ≤ 7 ∧ ew isD t (ew isD t (ew isD t s + 1) + 1) ≠ ew isD t (ew isD t s + 1) + 1 ∧ ew isD t (ew isD t s + 1) < t.length)) := by
  unfold eN at h
  generalize ew isD t s = a at *
  split at h
  · cases h
  rename_i c1
  refine ⟨by omega, fun c2 => ?_⟩
  have g4 := tb_at c2 (by omega)
  rw [if_neg (fun q => q c2)] at h
  generalize ew isD t (a + 1) = b at *
  split at h
  · cases h
  rename_i c3
  refine ⟨by omega, g4, fun c4 => ?_⟩
  have g7 := tb_at c4 (by omega)
  rw [if_neg (fun q => q c4)] at h
  generalize ew isD t (b + 1) = c at *
  split at h
  · cases h
  rename_i c5
  split at h
  · cases h
  rename_i c6
  exact ⟨by omega, c5, g7⟩
/-- a place where a NUMBER stands -/
def Nat9 (t : List Nat) (s : Nat) : Prop := s < t.length ∧ isD (tb t s) = true ∧ eN t s ≠ none
theorem Nat9.e {t : List Nat} {s : Nat} (h : Nat9 t s) : ∃ e, eN t s = some e := by
  cases he : eN t s with
  | none => exact absurd he h.2.2
  | some e => exact ⟨e, rfl⟩
theorem p10 {k m : Nat} (h : k ≤ m) : 10 ^ k ≤ 10 ^ m := Nat.pow_le_pow_right (by omega) h
theorem dgf_d {t : List Nat} {s : Nat} (h : Nat9 t s) (h46 : tb t (ew isD t s) = 46) : dgf t (ew isD t (ew isD t s + 1) - s) s 0 = dgf t (ew isD t (ew isD t s + 1) - ew isD t s - 1) (ew isD t s + 1) (dgf t (ew isD t s - s) s 0) ∧ dgf t (ew isD t (ew isD t s + 1) - s) s 0 < 1000000000000000000 ∧ dgf t (ew isD t s - s) s 0 < 1000000000000 := by
  obtain ⟨e, he⟩ := h.e
  obtain ⟨c1, c2⟩ := eN_a he
  obtain ⟨c3, c4, _⟩ := c2 h46
  have a1 : s ≤ ew isD t s := ew_ge
  have a2 : ew isD t s + 1 ≤ ew isD t (ew isD t s + 1) := ew_ge
  generalize ew isD t s = a at *
  generalize ew isD t (a + 1) = b at *
  have e1 : dgf t (b - s) s 0 = dgf t (b - a - 1) (a + 1) (dgf t (a - s) s 0) := by
    rw [show b - s = (a - s) + (1 + (b - a - 1)) by omega, dgf_app, dgf_app, dgf_1, show s + (a - s) = a by omega, if_neg (by rw [isD_i, h46]; omega)]
  have b1 := dgf_b (t := t) (a - s) s 0
  have b2 := p10 (show a - s ≤ 12 by omega)
  have b3 := dgf_b (t := t) (b - a - 1) (a + 1) (dgf t (a - s) s 0)
  have b4 := p10 (show b - a - 1 ≤ 6 by omega)
  have e12 : (10 : Nat) ^ 12 = 1000000000000 := rfl
  have e6 : (10 : Nat) ^ 6 = 1000000 := rfl
  have b5 : dgf t (a - s) s 0 < 1000000000000 := by omega
  refine ⟨e1, ?_, b5⟩
  rw [e1]
  refine Nat.lt_of_lt_of_le b3 ?_
  refine Nat.le_trans (Nat.mul_le_mul (show dgf t (a - s) s 0 + 1 ≤ 1000000000000 by omega) (show 10 ^ (b - a - 1) ≤ 1000000 by omega)) (by omega)
theorem nmp_b {t : List Nat} {s : Nat} (h : Nat9 t s) : (nmp t s).1 < 1000000000000000000000001 ∧ 0 < (nmp t s).2 ∧ (nmp t s).2 ≤ 1000000000000 := by
  obtain ⟨e, he⟩ := h.e
  obtain ⟨c1, c2⟩ := eN_a he
  have b1 := dgf_b (t := t) (ew isD t s - s) s 0
  have b2 := p10 (show ew isD t s - s ≤ 12 by omega)
  have e12 : (10 : Nat) ^ 12 = 1000000000000 := rfl
  have e6 : (10 : Nat) ^ 6 = 1000000 := rfl
  unfold nmp
  by_cases c : tb t (ew isD t s) = 46
  · rw [if_neg (fun q => q c)]
    obtain ⟨d1, d2, d3⟩ := dgf_d h c
    obtain ⟨c3, c4, c5⟩ := c2 c
    have b4 := p10 (show ew isD t (ew isD t s + 1) - ew isD t s - 1 ≤ 6 by omega)
    have b5 : 0 < 10 ^ (ew isD t (ew isD t s + 1) - ew isD t s - 1) := Nat.pow_pos (by omega)
    by_cases c6 : tb t (ew isD t (ew isD t s + 1)) = 91
    · rw [if_neg (fun q => q c6)]
      obtain ⟨c7, c8, c9⟩ := c5 c6
      have a3 : ew isD t (ew isD t s + 1) + 1 ≤ ew isD t (ew isD t (ew isD t s + 1) + 1) := ew_ge
      have b6 := p10 (show ew isD t (ew isD t (ew isD t s + 1) + 1) - ew isD t (ew isD t s + 1) - 1 ≤ 6 by omega)
      have b7 := dgf_b (t := t) (ew isD t (ew isD t (ew isD t s + 1) + 1) - ew isD t (ew isD t s + 1) - 1) (ew isD t (ew isD t s + 1) + 1) 0
      have b8 := p10 (show 1 ≤ ew isD t (ew isD t (ew isD t s + 1) + 1) - ew isD t (ew isD t s + 1) - 1 by omega)
      generalize dgf t (ew isD t (ew isD t (ew isD t s + 1) + 1) - ew isD t (ew isD t s + 1) - 1) (ew isD t (ew isD t s + 1) + 1) 0 = D at *
      generalize 10 ^ (ew isD t (ew isD t (ew isD t s + 1) + 1) - ew isD t (ew isD t s + 1) - 1) = P at *
      generalize dgf t (ew isD t (ew isD t s + 1) - s) s 0 = A at *
      generalize 10 ^ (ew isD t (ew isD t s + 1) - ew isD t s - 1) = B at *
      have hm : A * (P - 1) ≤ 1000000000000000000 * 999999 := Nat.mul_le_mul (by omega) (by omega)
      have hm2 : B * (P - 1) ≤ 1000000 * 999999 := Nat.mul_le_mul (by omega) (by omega)
      exact ⟨by show A * (P - 1) + D < _; omega, Nat.mul_pos b5 (by omega), by show B * (P - 1) ≤ _; omega⟩
    · rw [if_pos c6]
      exact ⟨by show dgf t (ew isD t (ew isD t s + 1) - s) s 0 < _; omega, b5, by show 10 ^ _ ≤ _; omega⟩
  · rw [if_pos c]
    exact ⟨by show dgf t (ew isD t s - s) s 0 < _; omega, by show 0 < 1; omega, by show 1 ≤ _; omega⟩
theorem nmq_ok {t : List Nat} {s : Nat} (h : Nat9 t s) : qok (nmq t s) := by
  obtain ⟨h1, h2, h3⟩ := nmp_b h
  have hb := qmk_b 1 (nmp t s).1 (nmp t s).2
  refine qmk_ok h2 (fun _ => Or.inl rfl) ⟨Nat.lt_of_le_of_lt hb.1 (Nat.lt_trans h1 (by decide)), Nat.lt_of_le_of_lt hb.2 (Nat.lt_of_le_of_lt h3 (by decide))⟩
theorem cr_nf_217 {σ : St} {x v nn d d0 : Nat} {s0 : Int} (hp : HP (PX x) σ) (hx : XS σ x) (hV : FX σ v s0 nn d0) (hv : x + 84 < v) (hnn : sml nn 4) (hd : d < 1000000000000000000) :
    Hx (fX4_numberFrom_217 σ (x + 18) (nJ d) v) (fun σ' a => a = v ∧ cW x (sR x v) 0 0 σ σ' ∧ FX σ' v (qmk 1 nn d).1 (qmk 1 nn d).2.1 (qmk 1 nn d).2.2) := by
  obtain ⟨fs, sg, hN, hD⟩ := hV
  try rw [n_fX4_numberFrom_217, fx_d fs]
  refine hx_bs ?_
  try rw [fx_kd fs]
  refine hx_bs ?_
  refine Hx.bd (cw_setSmall hp hD hd) (fun σ1 _ h1 => ?_)
  obtain ⟨hF1, hD1⟩ := h1
  have fs1 := fs.kW hF1
  have hN1 := hN.kW hF1 (by simp only [s1]; omega)
  try rw [fx_k fs1]
  refine hx_bs ?_
  refine Hx.bd (cf_setSign (s := 1) hF1.hp fs1 hN1) (fun σ2 _ h2 => ?_)
  obtain ⟨hF2, sg2⟩ := h2
  have hx2 := (hx.kW hF1).kW hF2
  have hV2 : FX σ2 v (if nn = 0 then 0 else 1) nn d := ⟨fs1.kW hF2, sg2, hN1.kW hF2 (by simp only [s1]; omega), hD1.kW hF2 (by simp only [s1]; omega)⟩
  try rw [show ckK σ2 10 (x + 18) = some () from hx2.ck 18 10 (by decide)]
  refine hx_bs ?_
  have hd2 : sml d 4 := lt_bp (show sml d 2 from hd) (by omega)
  refine Hx.bd (cr_reduce hF2.hp hx2 hV2 (by omega) (lt_bp hnn (by omega)) (lt_bp hd2 (by omega)) (rm_of hV2.2.2.1 (bp_dvd _ hnn)) (rm_of hV2.2.2.2 (bp_dvd _ hd2))) (fun σ3 _ h3 => ?_)
  obtain ⟨hF3, hV3⟩ := h3
  refine Hx.ret ⟨rfl, ((hF1.mo (S' := sR x v) (fun r _ hr => by simp only [s1, sR] at hr ⊢; omega) (Nat.le_refl _) (Nat.le_refl _)).tr0 (hF2.mo (S' := sR x v) (fun r _ hr => by simp only [s1, sR] at hr ⊢; omega) (Nat.le_refl _) (Nat.le_refl _)) (fun r _ hr => hr)).tr0 hF3 (fun r _ hr => hr), hV3⟩
theorem cr_nf_193 {σ : St} {x v A d k D d0 : Nat} {s0 : Int} (hp : HP (PX x) σ) (hx : XS σ x) (hV : FX σ v s0 A d0) (hv : x + 84 < v) (hA : A < 1000000000000000000) (hd : d ≤ 1000000) (hk : 1 ≤ k) (hk6 : k ≤ 6) (hD : D < 1000000) :
    Hx (fX4_numberFrom_193 σ (x + 18) (nJ d) v (nI D) (nI (10 ^ k))) (fun σ' a => a = v ∧ cW x (sR x v) 0 0 σ σ' ∧ FX σ' v (qmk 1 (A * (10 ^ k - 1) + D) (d * (10 ^ k - 1))).1 (qmk 1 (A * (10 ^ k - 1) + D) (d * (10 ^ k - 1))).2.1 (qmk 1 (A * (10 ^ k - 1) + D) (d * (10 ^ k - 1))).2.2) := by
  obtain ⟨fs, sg, hN, hDn⟩ := hV
  have e6 : (10 : Nat) ^ 6 = 1000000 := rfl
  have b1 := p10 hk6
  have b2 := p10 hk
  generalize 10 ^ k = P at *
  have hm : A * (P - 1) ≤ 1000000000000000000 * 999999 := Nat.mul_le_mul (by omega) (by omega)
  have hm2 : d * (P - 1) ≤ 1000000 * 999999 := Nat.mul_le_mul (by omega) (by omega)
  have hs4 : sml (A * (P - 1) + D) 4 := Nat.lt_of_lt_of_le (show A * (P - 1) + D < 1000000000000000000000000000 by omega) (bp_mono (show 3 ≤ 4 by omega))
  try rw [n_fX4_numberFrom_193, fx_n fs]
  refine hx_bs ?_
  try rw [fx_kn fs]
  refine hx_bs ?_
  rw [sm_sub (by omega)]
  refine Hx.bd (cw_raise hp hN (show 1 ≤ P - 1 by omega) (by omega) (show D < 1000000000 by omega) (lt_bp (show sml A 2 from hA) (by omega)) (rm_of hN hs4)) (fun σ1 _ h1 => ?_)
  obtain ⟨hF1, hN1⟩ := h1
  have hx1 := hx.kW hF1
  refine hx_nm ?_
  rw [jm_of (by omega), jm_mul]
  refine Hx.mo (cr_nf_217 hF1.hp hx1 ⟨fs.kW hF1, sg.kW hF1 (by simp only [s1]; omega), hN1, hDn.kW hF1 (by simp only [s1]; omega)⟩ hv hs4 (by omega)) (fun σ2 a h2 => ?_)
  exact ⟨h2.1, (hF1.mo (S' := sR x v) (fun r _ hr => by simp only [s1, sR] at hr ⊢; omega) (Nat.le_refl _) (Nat.le_refl _)).tr0 h2.2.1 (fun r _ hr => hr), h2.2.2⟩
theorem cr_nf_147 {σ : St} {x v A d b c d0 : Nat} {s0 : Int} {t : List Nat} (hp : HP (PX x) σ) (hx : XS σ x) (ht : RT σ x t) (hV : FX σ v s0 A d0) (hv : x + 84 < v) (hA : A < 1000000000000000000) (hd : d ≤ 1000000) (hb : b < t.length) (hc : c = ew isD t (b + 1)) (hc1 : c ≠ b + 1) (hc7 : c - b ≤ 7) :
    ∀ (f j : Nat), c - (b + 1) - j < f → j ≤ c - (b + 1) → Hx (fX4_numberFrom_147 f σ (x + 65) (x + 18) (nJ d) (nI (b + 1 + j)) v (nI (dgf t j (b + 1) 0)) (nI (10 ^ j))) (fun σ' a => a = v ∧ cW x (sR x v) 0 0 σ σ' ∧ FX σ' v (qmk 1 (A * (10 ^ (c - b - 1) - 1) + dgf t (c - b - 1) (b + 1) 0) (d * (10 ^ (c - b - 1) - 1))).1 (qmk 1 (A * (10 ^ (c - b - 1) - 1) + dgf t (c - b - 1) (b + 1) 0) (d * (10 ^ (c - b - 1) - 1))).2.1 (qmk 1 (A * (10 ^ (c - b - 1) - 1) + dgf t (c - b - 1) (b + 1) 0) (d * (10 ^ (c - b - 1) - 1))).2.2) := by
  have hl := ht.1.2
  have e6 : (10 : Nat) ^ 6 = 1000000 := rfl
  have hcl : c ≤ t.length := by rw [hc]; exact ew_le (by omega)
  have hcg : b + 1 ≤ c := by rw [hc]; exact ew_ge
  intro f
  induction f with
  | zero => intro j h; omega
  | succ f ih =>
    intro j hf hj
    have bj := p10 (show j ≤ 6 by omega)
    have dj := dgf_b (t := t) j (b + 1) 0
    try rw [n_fX4_numberFrom_147, hx.c9]
    refine hx_bs ?_
    try rw [cr_isDigit ht hx (by omega)]
    refine hx_cs (Hx.ce nb0 (fun c2 => ?_) (fun c2 => ?_))
    · have e : j = c - b - 1 := by
        apply Classical.byContradiction
        intro q
        exact c2 (ew_mid (P := isD) (t := t) (p := b + 1) (by omega) (by rw [← hc]; omega)).2
      rw [e]
      exact cr_nf_193 hp hx hV hv hA hd (by omega) (by omega) (by rw [← e]; omega)
    · have c2 := Classical.not_not.mp c2
      have hjc : j < c - (b + 1) := by
        apply Nat.lt_of_not_le
        intro q
        have e : b + 1 + j = ew isD t (b + 1) := by rw [← hc]; omega
        rw [e] at c2
        by_cases d9 : ew isD t (b + 1) < t.length
        · exact ew_at d9 c2
        · rw [tb_n (by omega)] at c2
          have := isD_i.mp c2
          omega
      have bj1 := p10 (show j ≤ 5 by omega)
      have e5 : (10 : Nat) ^ 5 = 100000 := rfl
      refine Hx.ce (sm_le (by omega) (by omega)) (fun c3 => absurd c3 (by omega)) (fun _ => ?_)
      try rw [hx.c9]
      refine hx_bs ?_
      try rw [cr_byteAt ht hx (by omega)]
      refine hx_cs (hx_nm (hx_nm (hx_nm ?_)))
      have hd9 := isD_i.mp c2
      have en : dgf t (j + 1) (b + 1) 0 = dgf t j (b + 1) 0 * 10 + tb t (b + 1 + j) - 48 := by
        rw [dgf_app, dgf_1, if_pos c2]
        omega
      rw [sm_mul, sm_add, sm_add, sm_sub (by omega), sm_mul, ← en, ← Nat.pow_succ, show b + 1 + j + 1 = b + 1 + (j + 1) by omega]
      exact ih (j + 1) (by omega) (by omega)
theorem cr_nf_104 {σ : St} {x A d p y NM DN : Nat} {t : List Nat} (hp : HP (PX x) σ) (hx : XS σ x) (ht : RT σ x t) (hA : A < 1000000000000000000) (hd : d ≤ 1000000) (hpl : p ≤ t.length)
    (hc : (y = 0 ∧ NM = A ∧ DN = d) ∨ (y = 1 ∧ tb t p ≠ 91 ∧ NM = A ∧ DN = d) ∨ (y = 1 ∧ tb t p = 91 ∧ ∃ c, c = ew isD t (p + 1) ∧ c ≠ p + 1 ∧ c - p ≤ 7 ∧ NM = A * (10 ^ (c - p - 1) - 1) + dgf t (c - p - 1) (p + 1) 0 ∧ DN = d * (10 ^ (c - p - 1) - 1))) :
    Hx (fX4_numberFrom_104 σ (x + 65) (x + 18) (nJ A) (nJ d) (nI p) (nI y)) (fun σ' a => a = sz σ ∧ cW x (sRc x) 15 5 σ σ' ∧ FX σ' (sz σ) (qmk 1 NM DN).1 (qmk 1 NM DN).2.1 (qmk 1 NM DN).2.2) := by
  have hl := ht.1.2
  have hzx : x + 144 ≤ sz σ := hx.1.2
  rw [n_fX4_numberFrom_104]
  refine hx_nm (hx_nm ?_)
  try rw [sm_ckK (show sK (nw 6 0 3 σ) (sz σ) = 6 from if_pos rfl)]
  refine hx_bs ?_
  refine Hx.bd (cf_init hp) (fun σ1 _ h1 => ?_)
  obtain ⟨hF1, fs1, sg1, hN1, hD1⟩ := h1
  try rw [fx_n fs1]
  refine hx_bs ?_
  try rw [fx_kn fs1]
  refine hx_bs ?_
  refine Hx.bd (cw_setSmall hF1.hp hN1 hA) (fun σ2 _ h2 => ?_)
  obtain ⟨hF2, hN2⟩ := h2
  have hF := hF1.tr0 hF2 (fun r hr hs => by simp only [s1] at hs; omega)
  have hx2 := hx.kW hF
  have ht2 := ht.kW hF hx (fun h => h) (fun h => h)
  have hV2 : FX σ2 (sz σ) 0 A 1 := ⟨fs1.kW hF2, sg1.kW hF2 (by simp only [s1]; omega), hN2, hD1.kW hF2 (by simp only [s1]; omega)⟩
  have fin : ∀ (NM DN : Nat) (σ' : St) (a : Nat), (a = sz σ ∧ cW x (sR x (sz σ)) 0 0 σ2 σ' ∧ FX σ' (sz σ) (qmk 1 NM DN).1 (qmk 1 NM DN).2.1 (qmk 1 NM DN).2.2) → (a = sz σ ∧ cW x (sRc x) 15 5 σ σ' ∧ FX σ' (sz σ) (qmk 1 NM DN).1 (qmk 1 NM DN).2.1 (qmk 1 NM DN).2.2) :=
    fun NM DN σ' a h => ⟨h.1, (hF.mo (S' := sRc x) (fun r _ h => h.elim) (Nat.le_refl _) (Nat.le_refl _)).tr0 h.2.1 (fun r hr hs => by simp only [sR, sRc] at hs ⊢; omega), h.2.2⟩
  have d217 : NM = A → DN = d → Hx (fX4_numberFrom_217 σ2 (x + 18) (nJ d) (sz σ)) (fun σ' a => a = sz σ ∧ cW x (sRc x) 15 5 σ σ' ∧ FX σ' (sz σ) (qmk 1 NM DN).1 (qmk 1 NM DN).2.1 (qmk 1 NM DN).2.2) := by
    intro e1 e2
    rw [e1, e2]
    exact Hx.mo (cr_nf_217 hF.hp hx2 hV2 (by omega) (lt_bp (show sml A 2 from hA) (by omega)) (by omega)) (fin A d)
  rcases hc with ⟨rfl, e1, e2⟩ | ⟨rfl, c1, e1, e2⟩ | ⟨rfl, c1, c, g1, g2, g3, e1, e2⟩
  · refine Hx.ce (sm_eq (by omega) (by omega)) (fun _ => d217 e1 e2) (fun q => absurd rfl q)
  · refine Hx.ce (sm_eq (by omega) (by omega)) (fun q => absurd q (by omega)) (fun _ => ?_)
    have hb := ht.b p
    try rw [hx2.c9]
    refine hx_bs ?_
    try rw [cr_byteAt ht2 hx2 (by omega)]
    refine hx_cs (Hx.ce (sm_eq (by omega) (by omega)) (fun q => absurd q c1) (fun _ => d217 e1 e2))
  · refine Hx.ce (sm_eq (by omega) (by omega)) (fun q => absurd q (by omega)) (fun _ => ?_)
    have hb := ht.b p
    have hpt := tb_at c1 (by omega)
    try rw [hx2.c9]
    refine hx_bs ?_
    try rw [cr_byteAt ht2 hx2 (by omega)]
    refine hx_cs (Hx.ce (sm_eq (by omega) (by omega)) (fun _ => ?_) (fun q => absurd c1 q))
    refine hx_nm ?_
    rw [sm_add, e1, e2]
    exact Hx.mo (cr_nf_147 hF.hp hx2 ht2 hV2 (by omega) hA hd hpt g1 g2 g3 FU 0 (by show c - (p + 1) - 0 < 4294967296; omega) (by omega)) (fin _ _)
theorem cr_nf_45 {σ : St} {x A d p y : Nat} {t : List Nat} {Q : St → Nat → Prop} {k : St → Nat → Nat → Int64 → Int64 → Int32 → Int32 → Option (St × Nat)} (hx : XS σ x) (ht : RT σ x t) (hp : p < t.length) (hy : y = 0 ∨ y = 1)
    (h : (isD (tb t p) = true ∧ Hx (k σ (x + 65) (x + 18) (nJ (10 * A + (tb t p - 48))) (nJ (if y = 0 then d else d * 10)) (nI (p + 1)) (nI y)) Q) ∨ (tb t p = 46 ∧ Hx (k σ (x + 65) (x + 18) (nJ A) (nJ d) (nI (p + 1)) (nI 1)) Q)) :
    Hx (fX4_numberFrom_45 k σ (x + 65) (x + 18) (nJ A) (nJ d) (nI p) (nI y)) Q := by
  have hl := ht.1.2
  have hb := ht.b p
  try rw [n_fX4_numberFrom_45, hx.c9]
  refine hx_bs ?_
  rw [cr_byteAt ht hx (by omega)]
  rcases h with ⟨c, h⟩ | ⟨c, h⟩
  · have hd := isD_i.mp c
    refine hx_cs (Hx.ce (sm_eq (by omega) (by omega)) (fun q => by omega) (fun _ => ?_))
    try rw [hx.c9]
    refine hx_bs ?_
    try rw [cr_byteAt ht hx (by omega)]
    refine hx_cs (hx_nm ?_)
    rw [jm_mul, jm_of (by omega), jm_add, jm_sub (by omega), show A * 10 + tb t p - 48 = 10 * A + (tb t p - 48) by omega]
    rcases hy with rfl | rfl
    · refine Hx.ce (sm_eq (by omega) (by omega)) (fun _ => ?_) (fun q => absurd rfl q)
      rw [n_fX4_numberFrom_96, n_fX4_numberFrom_98]
      refine hx_nm ?_
      rw [sm_add]
      exact h
    · refine Hx.ce (sm_eq (by omega) (by omega)) (fun q => absurd q (by omega)) (fun _ => ?_)
      rw [n_fX4_numberFrom_96, n_fX4_numberFrom_98]
      refine hx_nm ?_
      rw [sm_add, jm_mul]
      exact h
  · refine hx_cs (Hx.ce (sm_eq (by omega) (by omega)) (fun _ => ?_) (fun q => absurd c q))
    rw [n_fX4_numberFrom_98]
    refine hx_nm ?_
    rw [sm_add]
    exact h
theorem cr_nf_11 {σ : St} {x p : Nat} {t : List Nat} (hx : XS σ x) (ht : RT σ x t) (hp : p ≤ t.length) {f A d y : Nat} {Q : St → Nat → Prop} (hy : y = 0 ∨ y = 1)
    (h : (p < t.length ∧ isD (tb t p) = true ∧ Hx (fX4_numberFrom_11 f σ (x + 65) (x + 18) (nJ (10 * A + (tb t p - 48))) (nJ (if y = 0 then d else d * 10)) (nI (p + 1)) (nI y)) Q) ∨ (p < t.length ∧ tb t p = 46 ∧ y = 0 ∧ Hx (fX4_numberFrom_11 f σ (x + 65) (x + 18) (nJ A) (nJ d) (nI (p + 1)) (nI 1)) Q) ∨ ((t.length ≤ p ∨ ¬ isD (tb t p) = true ∧ (tb t p ≠ 46 ∨ y = 1)) ∧ Hx (fX4_numberFrom_104 σ (x + 65) (x + 18) (nJ A) (nJ d) (nI p) (nI y)) Q)) :
    Hx (fX4_numberFrom_11 (f + 1) σ (x + 65) (x + 18) (nJ A) (nJ d) (nI p) (nI y)) Q := by
  have hl := ht.1.2
  have hb := ht.b p
  try rw [n_fX4_numberFrom_11, ht.g1 hx]
  refine hx_bs (Hx.ce (sm_le (by omega) (by omega)) (fun c => ?_) (fun c => ?_))
  · rcases h with ⟨h1, _⟩ | ⟨h1, _⟩ | ⟨_, h⟩
    · omega
    · omega
    · exact h
  · try rw [hx.c9]
    refine hx_bs ?_
    try rw [cr_isDigit ht hx (by omega)]
    refine hx_cs (Hx.ce nb0 (fun c2 => ?_) (fun c2 => ?_))
    · try rw [hx.c9]
      refine hx_bs ?_
      try rw [cr_byteAt ht hx (by omega)]
      refine hx_cs (Hx.ce (sm_eq (by omega) (by omega)) (fun c3 => ?_) (fun c3 => ?_))
      · refine Hx.ce (sm_eq (by omega) (by omega)) (fun c4 => ?_) (fun c4 => ?_)
        · rcases h with ⟨_, h1, _⟩ | ⟨h1, h2, h3, h⟩ | ⟨h1, _⟩
          · exact absurd h1 c2
          · exact cr_nf_45 hx ht h1 hy (Or.inr ⟨h2, h⟩)
          · omega
        · rcases h with ⟨_, h1, _⟩ | ⟨h1, h2, h3, h⟩ | ⟨h1, h⟩
          · exact absurd h1 c2
          · omega
          · exact h
      · rcases h with ⟨_, h1, _⟩ | ⟨h1, h2, h3, h⟩ | ⟨h1, h⟩
        · exact absurd h1 c2
        · omega
        · exact h
    · have c2 := Classical.not_not.mp c2
      rcases h with ⟨h1, _, h⟩ | ⟨h1, h2, h3, h⟩ | ⟨h1, h⟩
      · exact cr_nf_45 hx ht h1 hy (Or.inl ⟨c2, h⟩)
      · exact cr_nf_45 hx ht h1 hy (Or.inr ⟨h2, h⟩)
      · rcases h1 with h1 | h1
        · omega
        · exact absurd c2 h1.1
/-- the digits behind the point -/
theorem cr_nf_ph2 {σ : St} {x a b A0 : Nat} {t : List Nat} {Q : St → Nat → Prop} (hx : XS σ x) (ht : RT σ x t) (hb : b = ew isD t (a + 1)) (hbl : b ≤ t.length) : ∀ (j f p : Nat), p + j = b → a + 1 ≤ p → j < f →
    Hx (fX4_numberFrom_104 σ (x + 65) (x + 18) (nJ (dgf t (b - a - 1) (a + 1) A0)) (nJ (10 ^ (b - a - 1))) (nI b) (nI 1)) Q → Hx (fX4_numberFrom_11 f σ (x + 65) (x + 18) (nJ (dgf t (p - a - 1) (a + 1) A0)) (nJ (10 ^ (p - a - 1))) (nI p) (nI 1)) Q := by
  have hl := ht.1.2
  intro j
  induction j with
  | zero =>
    intro f p hp hap hf h
    obtain rfl : p = b := hp
    obtain ⟨f, rfl⟩ : ∃ g, f = g + 1 := ⟨f - 1, by omega⟩
    refine cr_nf_11 hx ht hbl (Or.inr rfl) (Or.inr (Or.inr ⟨?_, h⟩))
    by_cases c : p < t.length
    · exact Or.inr ⟨by rw [hb]; exact ew_at (by rw [← hb]; exact c), Or.inr rfl⟩
    · exact Or.inl (by omega)
  | succ j ih =>
    intro f p hp hap hf h
    obtain ⟨f, rfl⟩ : ∃ g, f = g + 1 := ⟨f - 1, by omega⟩
    obtain ⟨m1, m2⟩ := ew_mid (P := isD) (t := t) (p := a + 1) (i := p) hap (by rw [← hb]; omega)
    refine cr_nf_11 hx ht (by omega) (Or.inr rfl) (Or.inl ⟨m1, m2, ?_⟩)
    have := ih f (p + 1) (by omega) (by omega) (by omega) h
    rw [if_neg (by omega), ← Nat.pow_succ]
    rw [show p + 1 - a - 1 = (p - a - 1) + 1 by omega, dgf_app, dgf_1, show a + 1 + (p - a - 1) = p by omega, if_pos m2] at this
    exact this
/-- the digits ahead of the point -/
theorem cr_nf_ph1 {σ : St} {x s a : Nat} {t : List Nat} {Q : St → Nat → Prop} (hx : XS σ x) (ht : RT σ x t) (ha : a = ew isD t s) : ∀ (j f p : Nat), p + j = a → s ≤ p →
    Hx (fX4_numberFrom_11 f σ (x + 65) (x + 18) (nJ (dgf t (a - s) s 0)) (nJ 1) (nI a) (nI 0)) Q → Hx (fX4_numberFrom_11 (f + j) σ (x + 65) (x + 18) (nJ (dgf t (p - s) s 0)) (nJ 1) (nI p) (nI 0)) Q := by
  have hl := ht.1.2
  intro j
  induction j with
  | zero => intro f p hp _ h; obtain rfl : p = a := hp; exact h
  | succ j ih =>
    intro f p hp hsp h
    obtain ⟨m1, m2⟩ := ew_mid (P := isD) (t := t) (p := s) (i := p) hsp (by rw [← ha]; omega)
    refine cr_nf_11 (f := f + j) hx ht (by omega) (Or.inl rfl) (Or.inl ⟨m1, m2, ?_⟩)
    have := ih f (p + 1) (by omega) (by omega) h
    rw [if_pos rfl]
    rw [show p + 1 - s = (p - s) + 1 by omega, dgf_app, dgf_1, show s + (p - s) = p by omega, if_pos m2] at this
    exact this
theorem cr_numberFrom {σ : St} {x s : Nat} {t : List Nat} (hp : HP (PX x) σ) (hx : XS σ x) (ht : RT σ x t) (hs : Nat9 t s) :
    Hx (fX4_numberFrom σ (x + 65) (nI s) (x + 18)) (fun σ' a => a = sz σ ∧ cW x (sRc x) 15 5 σ σ' ∧ FX σ' (sz σ) (nmq t s).1 (nmq t s).2.1 (nmq t s).2.2) := by
  have hl := ht.1.2
  obtain ⟨e, he⟩ := hs.e
  obtain ⟨c1, c2⟩ := eN_a he
  have hst := hs.1
  have a1 : s ≤ ew isD t s := ew_ge
  have a2 : ew isD t s ≤ t.length := ew_le (by omega)
  have e12 : (10 : Nat) ^ 12 = 1000000000000 := rfl
  have e6 : (10 : Nat) ^ 6 = 1000000 := rfl
  have hd := dgf_d hs
  have b1 := dgf_b (t := t) (ew isD t s - s) s 0
  have b2 := p10 (show ew isD t s - s ≤ 12 by omega)
  have key : ∀ f, 300 < f → Hx (fX4_numberFrom_11 f σ (x + 65) (x + 18) (nJ (dgf t (ew isD t s - s) s 0)) (nJ 1) (nI (ew isD t s)) (nI 0)) (fun σ' a => a = sz σ ∧ cW x (sRc x) 15 5 σ σ' ∧ FX σ' (sz σ) (nmq t s).1 (nmq t s).2.1 (nmq t s).2.2) := by
    intro f hf
    obtain ⟨f, rfl⟩ : ∃ g, f = g + 1 := ⟨f - 1, by omega⟩
    by_cases c : tb t (ew isD t s) = 46
    · obtain ⟨d1, d2, d3⟩ := hd c
      obtain ⟨c3, c4, c5⟩ := c2 c
      have a3 : ew isD t s + 1 ≤ ew isD t (ew isD t s + 1) := ew_ge
      have a4 : ew isD t (ew isD t s + 1) ≤ t.length := ew_le (by omega)
      have b4 := p10 (show ew isD t (ew isD t s + 1) - ew isD t s - 1 ≤ 6 by omega)
      refine cr_nf_11 hx ht a2 (Or.inl rfl) (Or.inr (Or.inl ⟨c4, c, rfl, ?_⟩))
      have g := cr_nf_ph2 (A0 := dgf t (ew isD t s - s) s 0) (Q := fun σ' a => a = sz σ ∧ cW x (sRc x) 15 5 σ σ' ∧ FX σ' (sz σ) (nmq t s).1 (nmq t s).2.1 (nmq t s).2.2) hx ht (a := ew isD t s) rfl a4 (ew isD t (ew isD t s + 1) - (ew isD t s + 1)) f (ew isD t s + 1) (by omega) (by omega) (by omega) ?_
      · rw [show ew isD t s + 1 - ew isD t s - 1 = 0 by omega] at g
        exact g
      · rw [← d1]
        refine cr_nf_104 hp hx ht d2 (by omega) a4 ?_
        by_cases c6 : tb t (ew isD t (ew isD t s + 1)) = 91
        · obtain ⟨c7, c8, c9⟩ := c5 c6
          refine Or.inr (Or.inr ⟨rfl, c6, _, rfl, c8, c7, ?_, ?_⟩)
          · unfold nmp; rw [if_neg (fun q => q c), if_neg (fun q => q c6)]
          · unfold nmp; rw [if_neg (fun q => q c), if_neg (fun q => q c6)]
        · refine Or.inr (Or.inl ⟨rfl, c6, ?_, ?_⟩)
          · unfold nmp; rw [if_neg (fun q => q c), if_pos c6]
          · unfold nmp; rw [if_neg (fun q => q c), if_pos c6]
    · refine cr_nf_11 hx ht a2 (Or.inl rfl) (Or.inr (Or.inr ⟨?_, ?_⟩))
      · by_cases c3 : ew isD t s < t.length
        · exact Or.inr ⟨ew_at c3, Or.inl c⟩
        · exact Or.inl (by omega)
      · refine cr_nf_104 hp hx ht (by omega) (by omega) a2 (Or.inl ⟨rfl, ?_, ?_⟩)
        · unfold nmp; rw [if_pos c]
        · unfold nmp; rw [if_pos c]
  rw [n_fX4_numberFrom]
  have g := cr_nf_ph1 (Q := fun σ' a => a = sz σ ∧ cW x (sRc x) 15 5 σ σ' ∧ FX σ' (sz σ) (nmq t s).1 (nmq t s).2.1 (nmq t s).2.2) hx ht (s := s) rfl (ew isD t s - s) (FU - (ew isD t s - s)) s (by omega) (by omega) (key _ (by show 300 < 4294967296 - (ew isD t s - s); omega))
  rw [Nat.sub_self, show FU - (ew isD t s - s) + (ew isD t s - s) = FU from Nat.sub_add_cancel (by show ew isD t s - s ≤ 4294967296; omega)] at g
  exact g
