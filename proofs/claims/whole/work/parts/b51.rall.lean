/-! ===== the reference's calls: takeAll ===== -/
theorem RI.mk5 {σ σ' : St} {m v' : Nat} {c : Rct} {s : Rst} {F : List Nat} (h : RI σ m c s) (hR : rfM m F [1, 2, 42, 44] (fun j => c.1 ≤ j) σ σ') (hF : ∀ f ∈ F, f = 0 ∨ f = 5 ∨ f = 77 ∨ f = 79 ∨ f = 80 ∨ f = 81) (h5 : Fi σ' m 5 (nI v')) (hv : c.1 ≤ v' ∧ v' ≤ 12600) : RI σ' m (v', c.2) s := by
  obtain ⟨⟨a1, a2, a3, a4⟩, ⟨b1, b2, b3, b4⟩, d, ⟨e1, e2, e3⟩, f1, f2⟩ := h
  have nf : ∀ f, f ≠ 0 → f ≠ 5 → f ≠ 77 → f ≠ 79 → f ≠ 80 → f ≠ 81 → f ∉ F := fun f n1 n2 n3 n4 n5 n6 q => by have := hF f q; omega
  have hK : Kp m c.1 c.2.1 c.2.2 σ σ' := Kp.of hR (by decide) (fun i h1 h2 z => by omega)
  have sh : ∀ i, 200 ≤ i → i < 400 → ¬ c.1 ≤ i := fun i h1 h2 z => by omega
  refine ⟨⟨hR.ms a1, a2.keep hR (nf 8 (by omega) (by omega) (by omega) (by omega) (by omega) (by omega)) (by decide), a3.keep hR (nf 9 (by omega) (by omega) (by omega) (by omega) (by omega) (by omega)), a4.keep hR ⟨nf 43 (by omega) (by omega) (by omega) (by omega) (by omega) (by omega), nf 44 (by omega) (by omega) (by omega) (by omega) (by omega) (by omega), nf 45 (by omega) (by omega) (by omega) (by omega) (by omega) (by omega), nf 46 (by omega) (by omega) (by omega) (by omega) (by omega) (by omega)⟩ (by decide)⟩,
    ⟨(b1.keep hR hK (nf 57 (by omega) (by omega) (by omega) (by omega) (by omega) (by omega))).up hv, (b2.keep hR hK (by decide)).up hv, b3.keep hR (nf 78 (by omega) (by omega) (by omega) (by omega) (by omega) (by omega)) (by decide), b4.keep hR (nf 56 (by omega) (by omega) (by omega) (by omega) (by omega) (by omega)) (by decide) sh⟩,
    (d.keep hR hK ⟨nf 40 (by omega) (by omega) (by omega) (by omega) (by omega) (by omega), nf 41 (by omega) (by omega) (by omega) (by omega) (by omega) (by omega), nf 72 (by omega) (by omega) (by omega) (by omega) (by omega) (by omega), nf 73 (by omega) (by omega) (by omega) (by omega) (by omega) (by omega)⟩ (by decide)).up hv (Nat.le_refl _) ⟨Nat.le_refl _, f2.2.2⟩,
    ⟨h5, e2.keep hR (nf 21 (by omega) (by omega) (by omega) (by omega) (by omega) (by omega)), e3.keep hR (nf 25 (by omega) (by omega) (by omega) (by omega) (by omega) (by omega))⟩, by show 600 ≤ v'; omega, hv.2, f2.2⟩
abbrev Acc := Int × Nat × Nat
def sumF : List Qv → Acc → Acc
  | [], a => a
  | v :: vs, a => sumF vs (jnS a.1 v.1 (a.2.1 * v.2.2) (v.2.1 * a.2.2), jnN a.1 v.1 (a.2.1 * v.2.2) (v.2.1 * a.2.2), a.2.2 * v.2.2)
def prdF : List Qv → Acc → Acc
  | [], a => a
  | v :: vs, a => prdF vs (a.1 * v.1, a.2.1 * v.2.1, a.2.2 * v.2.2)
/-- a sign fits its amount -/
def Aok (k : Nat) (a : Acc) : Prop := (-1 ≤ a.1 ∧ a.1 ≤ 1) ∧ (a.1 = 0 ↔ a.2.1 = 0) ∧ 0 < a.2.2 ∧ a.2.1 < 10000 ^ (9 * k + 1) ∧ a.2.2 < 10000 ^ (8 * k + 1)
theorem Aok.sum {k : Nat} {a : Acc} {v : Qv} (h : Aok k a) (hv : qok v) : Aok (k + 1) (jnS a.1 v.1 (a.2.1 * v.2.2) (v.2.1 * a.2.2), jnN a.1 v.1 (a.2.1 * v.2.2) (v.2.1 * a.2.2), a.2.2 * v.2.2) := by
  obtain ⟨t, x, y⟩ := a
  obtain ⟨s, n, d⟩ := v
  obtain ⟨h1, h2, h3, h4, h5⟩ := h
  obtain ⟨v1, v2, v3, _, v4, v5⟩ := hv
  have h1 : -1 ≤ t ∧ t ≤ 1 := h1
  have h2 : t = 0 ↔ x = 0 := h2
  have h3 : 0 < y := h3
  have v1 : s = 0 ∨ s = 1 ∨ s = -1 := v1
  have v2 : s = 0 ↔ n = 0 := v2
  have v3 : 0 < d := v3
  have hd8 := dig30_lt
  have h4 : x < 10000 ^ (9 * k + 1) := h4
  have h5 : y < 10000 ^ (8 * k + 1) := h5
  have v4 : n < 10000 ^ 8 := by have v4 : n < dig30 := v4; omega
  have v5 : d < 10000 ^ 8 := by have v5 : d < dig30 := v5; omega
  have xd : x = 0 ↔ x * d = 0 := by
    constructor
    · intro q; rw [q, Nat.zero_mul]
    · intro q; rcases Nat.mul_eq_zero.mp q with q | q
      · exact q
      · omega
  have ny : n = 0 ↔ n * y = 0 := by
    constructor
    · intro q; rw [q, Nat.zero_mul]
    · intro q; rcases Nat.mul_eq_zero.mp q with q | q
      · exact q
      · omega
  have b1 : x * d < 10000 ^ (9 * k + 9) := by
    have : x * d < 10000 ^ (9 * k + 1) * 10000 ^ 8 := Nat.mul_lt_mul'' h4 v5
    rw [← Nat.pow_add] at this
    exact this
  have b2 : n * y < 10000 ^ (9 * k + 9) := by
    have : n * y < 10000 ^ 8 * 10000 ^ (8 * k + 1) := Nat.mul_lt_mul'' v4 h5
    rw [← Nat.pow_add] at this
    exact Nat.lt_of_lt_of_le this (Nat.pow_le_pow_right (by omega) (by omega))
  have b3 : y * d < 10000 ^ (8 * (k + 1) + 1) := by
    have : y * d < 10000 ^ (8 * k + 1) * 10000 ^ 8 := Nat.mul_lt_mul'' h5 v5
    rw [← Nat.pow_add] at this
    rw [show 8 * (k + 1) + 1 = 8 * k + 1 + 8 by omega]
    exact this
  have e10 : 10000 ^ (9 * (k + 1) + 1) = 10000 ^ (9 * k + 9) * 10000 := by rw [show 9 * (k + 1) + 1 = 9 * k + 9 + 1 by omega, Nat.pow_succ]
  refine ⟨?_, ?_, Nat.mul_pos h3 v3, ?_, b3⟩
  · show -1 ≤ jnS t s (x * d) (n * y) ∧ jnS t s (x * d) (n * y) ≤ 1
    unfold jnS
    split
    · omega
    · split
      · omega
      · split
        · omega
        · split
          · omega
          · split
            · omega
            · omega
  · show jnS t s (x * d) (n * y) = 0 ↔ jnN t s (x * d) (n * y) = 0
    unfold jnS jnN
    by_cases c1 : t = 0
    · rw [if_pos c1, if_pos (Or.inl c1)]
      omega
    · rw [if_neg c1]
      by_cases c2 : s = 0
      · rw [if_pos c2, if_pos (Or.inr (Or.inl c2))]
        omega
      · rw [if_neg c2]
        by_cases c3 : t = s
        · rw [if_pos c3, if_pos (Or.inr (Or.inr c3))]
          omega
        · rw [if_neg c3, if_neg (show ¬ (t = 0 ∨ s = 0 ∨ t = s) by omega)]
          by_cases c4 : x * d < n * y
          · rw [if_pos c4, if_pos c4]; omega
          · rw [if_neg c4, if_neg c4]
            by_cases c5 : x * d = n * y
            · rw [if_pos c5]; omega
            · rw [if_neg c5]; omega
  · show jnN t s (x * d) (n * y) < _
    rw [e10]
    unfold jnN
    split
    · omega
    · split <;> omega
theorem Aok.prd {k : Nat} {a : Acc} {v : Qv} (h : Aok k a) (hv : qok v) : Aok (k + 1) (a.1 * v.1, a.2.1 * v.2.1, a.2.2 * v.2.2) := by
  obtain ⟨t, x, y⟩ := a
  obtain ⟨s, n, d⟩ := v
  obtain ⟨h1, h2, h3, h4, h5⟩ := h
  obtain ⟨v1, v2, v3, _, v4, v5⟩ := hv
  have h1 : -1 ≤ t ∧ t ≤ 1 := h1
  have h2 : t = 0 ↔ x = 0 := h2
  have h3 : 0 < y := h3
  have v1 : s = 0 ∨ s = 1 ∨ s = -1 := v1
  have v2 : s = 0 ↔ n = 0 := v2
  have v3 : 0 < d := v3
  have hd8 := dig30_lt
  have h4 : x < 10000 ^ (9 * k + 1) := h4
  have h5 : y < 10000 ^ (8 * k + 1) := h5
  have v4 : n < 10000 ^ 8 := by have v4 : n < dig30 := v4; omega
  have v5 : d < 10000 ^ 8 := by have v5 : d < dig30 := v5; omega
  have b1 : x * n < 10000 ^ (9 * (k + 1) + 1) := by
    have : x * n < 10000 ^ (9 * k + 1) * 10000 ^ 8 := Nat.mul_lt_mul'' h4 v4
    rw [← Nat.pow_add] at this
    exact Nat.lt_of_lt_of_le this (Nat.pow_le_pow_right (by omega) (by omega))
  have b3 : y * d < 10000 ^ (8 * (k + 1) + 1) := by
    have : y * d < 10000 ^ (8 * k + 1) * 10000 ^ 8 := Nat.mul_lt_mul'' h5 v5
    rw [← Nat.pow_add] at this
    rw [show 8 * (k + 1) + 1 = 8 * k + 1 + 8 by omega]
    exact this
  have ht : t = 0 ∨ t = 1 ∨ t = -1 := by omega
  refine ⟨?_, ?_, Nat.mul_pos h3 v3, b1, b3⟩
  · show -1 ≤ t * s ∧ t * s ≤ 1
    rcases ht with rfl | rfl | rfl <;> rcases v1 with rfl | rfl | rfl <;> omega
  · show t * s = 0 ↔ x * n = 0
    rw [Int.mul_eq_zero, Nat.mul_eq_zero, h2, v2]
noncomputable def allF (b : Nat) (vs : List Qv) : Acc := if b = 0 then prdF vs (1, 1, 1) else sumF vs (0, 0, 1)
theorem rf_ja_147 {m r b k x y d : Nat} {t : Int32} {σ : St} {P : St → Int32 → Prop} {k35 : St → Nat → Int32 → Int32 → Int32 → Int32 → Option (St × Int32)} {u : Nat} (hu : u + 8 ≤ 980) (hm : MS σ m) (hx : Rv σ m 13 x) (hy : Rv σ m 14 y) (hd : Rv σ m 3 d) (hyu : y < 10000 ^ u) (hd8 : d < 10000 ^ 8)
    (hK : ∀ σ', MS σ' m → rfR m [7, 14] σ σ' → Rv σ' m 13 x → Rv σ' m 14 (y * d) → Hx (k35 σ' m (nI r) (nI b) t (nI (k + 1))) P) : Hx (fX12_joinsAll_147 k35 σ m (nI r) (nI b) t (nI k)) P := by
  rw [n_fX12_joinsAll_147, rf_ck hm]
  refine hx_bs ?_
  obtain ⟨σ1, e1, r1, v1⟩ := rf_multiplies (t := 7) (a := 14) (b := 3) (u := u) (v := 8) hm (by omega) (by omega) (by omega) (by omega) (by omega) hu hyu hd8 hy hd
  rw [e1]
  refine hx_cs ?_
  have m1 := r1.ms hm
  rw [rf_ck m1]
  refine hx_bs ?_
  obtain ⟨σ2, e2, r2, v2⟩ := rf_copies (t := 14) (f := 7) m1 (by omega) (by omega) (by omega) v1
  rw [e2]
  refine hx_cs ?_
  refine hx_nm ?_
  rw [sm_add]
  exact hK σ2 (r2.ms m1) ((r1.mo (by decide)).tr (r2.mo (by decide))) ((hx.keep r1 (by decide)).keep r2 (by decide)) v2
abbrev RJA : List Nat := [2, 3, 4, 5, 6, 7, 13, 14]
theorem rf_ja_35 {m vm r b : Nat} {vs : List Qv} {σ0 : St} (hr : r < 3) (hb : b ≤ 1) (hR0 : Rw1 σ0 m vm r vs) : ∀ (n k : Nat) (a : Acc) (σ : St), vs.length - k < n → k ≤ vs.length → MS σ m → rfR m RJA σ0 σ → Aok k a → Rv σ m 13 a.2.1 → Rv σ m 14 a.2.2 →
    Hx (fX12_joinsAll_35 n σ m (nI r) (nI b) (iz a.1) (nI k)) (fun σ' v => ∃ e : Acc, e = (if b = 0 then prdF (vs.drop k) a else sumF (vs.drop k) a) ∧ v = iz e.1 ∧ rfR m RJA σ0 σ' ∧ Rv σ' m 13 e.2.1 ∧ Rv σ' m 14 e.2.2 ∧ Aok vs.length e) := by
  have hl := hR0.2.1
  have hd8 := dig30_lt
  intro n
  induction n with
  | zero => intro k a σ h; omega
  | succ n ih =>
    intro k a σ hn hk hm hF hA hx hy
    have hR : Rw1 σ m vm r vs := hR0.keep (show rfM m [] [1, 2] nV σ0 σ from hF.M) (by decide) (fun _ _ _ z => z)
    rw [n_fX12_joinsAll_35, rf_rowMany hm]
    refine hx_bs ?_
    rw [ld_rowMany hm hr, hR.1]
    refine hx_bs ?_
    refine Hx.ce (sm_le (by omega) (by omega)) (fun c => ?_) (fun c => ?_)
    · have : k = vs.length := by omega
      subst this
      rw [List.drop_length]
      refine Hx.ret ⟨a, ?_, rfl, hF, hx, hy, hA⟩
      split <;> rfl
    · have hk2 : k < vs.length := by omega
      have hd : vs.drop k = vs[k] :: vs.drop (k + 1) := List.drop_eq_getElem_cons hk2
      obtain ⟨vi, u1, u2⟩ := hR.2.2 k _ (List.getElem?_eq_getElem hk2)
      have hq := u2.2.1
      have hi : vi < 12600 := by have := u2.1; omega
      have n8 : vs[k].2.1 < 10000 ^ 8 := by have := hq.2.2.2.2.1; omega
      have d8 : vs[k].2.2 < 10000 ^ 8 := by have := hq.2.2.2.2.2; omega
      rw [rf_row hm]
      refine hx_bs ?_
      rw [sm_mul, sm_add, ld_row hm (by omega), u1]
      refine hx_bs ?_
      rw [rf_ck hm]
      refine hx_bs ?_
      obtain ⟨σ1, e1, r1, v1⟩ := rf_loads (r := 2) hm (by omega) hi u2.2 0 (by omega)
      rw [e1]
      refine hx_cs ?_
      have m1 := r1.ms hm
      rw [rf_ck m1]
      refine hx_bs ?_
      have V1 := u2.2.keepM (show rfM m [] [1, 2] nV σ σ1 from r1.M) (fun z => z)
      obtain ⟨σ2, e2, r2, v2⟩ := rf_loads (r := 3) m1 (by omega) hi V1 1 (by omega)
      rw [e2]
      refine hx_cs ?_
      have m2 := r2.ms m1
      have V2 := V1.keepM (show rfM m [] [1, 2] nV σ1 σ2 from r2.M) (fun z => z)
      have v1' : Rv σ2 m 2 vs[k].2.1 := Rv.keep (x := vs[k].2.1) v1 r2 (by decide)
      have v2' : Rv σ2 m 3 vs[k].2.2 := v2
      have hx2 := (hx.keep r1 (by decide)).keep r2 (by decide)
      have hy2 := (hy.keep r1 (by decide)).keep r2 (by decide)
      have r12 : rfR m RJA σ σ2 := (r1.mo (by decide)).tr (r2.mo (by decide))
      have ak := hA.2.2.2.1
      have al := hA.2.2.2.2
      by_cases cb0 : b = 0
      · subst cb0
        refine Hx.ce rfl (fun _ => ?_) (fun z => absurd rfl z)
        rw [rf_ck m2]
        refine hx_bs ?_
        obtain ⟨σ3, e3, r3, v3⟩ := rf_multiplies (t := 6) (a := 13) (b := 2) (u := 9 * k + 1) (v := 8) m2 (by omega) (by omega) (by omega) (by omega) (by omega) (by omega) ak n8 hx2 v1'
        rw [e3]
        refine hx_cs ?_
        have m3 := r3.ms m2
        rw [rf_ck m3]
        refine hx_bs ?_
        obtain ⟨σ4, e4, r4, v4⟩ := rf_copies (t := 13) (f := 6) m3 (by omega) (by omega) (by omega) v3
        rw [e4]
        refine hx_cs ?_
        have m4 := r4.ms m3
        have V4 := (V2.keepM (show rfM m [] [1, 2] nV σ2 σ3 from r3.M) (fun z => z)).keepM (show rfM m [] [1, 2] nV σ3 σ4 from r4.M) (fun z => z)
        rw [rf_sign m4]
        refine hx_bs ?_
        rw [V4.sg m4 hi]
        refine hx_bs ?_
        refine hx_nm ?_
        rw [iz_mul]
        refine rf_ja_147 (u := 8 * k + 1) (by omega) m4 v4 ((hy2.keep r3 (by decide)).keep r4 (by decide)) ((v2'.keep r3 (by decide)).keep r4 (by decide)) al d8 (fun σ5 m5 r5 x5 y5 => ?_)
        have r15 : rfR m RJA σ σ5 := r12.tr ((r3.mo (by decide)).tr ((r4.mo (by decide)).tr (r5.mo (by decide))))
        refine (ih (k + 1) (a.1 * vs[k].1, a.2.1 * vs[k].2.1, a.2.2 * vs[k].2.2) σ5 (by omega) hk2 m5 (hF.tr r15) (hA.prd hq) x5 y5).mo (fun σ6 v g => ?_)
        obtain ⟨e, g1, g2⟩ := g
        refine ⟨e, ?_, g2⟩
        rw [g1, hd, if_pos rfl, if_pos rfl]
        rfl
      · have hb1 : b = 1 := by omega
        subst hb1
        refine Hx.ce (sm_eq (show 1 < 2147483648 by omega) (by omega)) (fun z => absurd z (by omega)) (fun _ => ?_)
        rw [rf_ck m2]
        refine hx_bs ?_
        obtain ⟨σ3, e3, r3, v3⟩ := rf_multiplies (t := 4) (a := 13) (b := 3) (u := 9 * k + 1) (v := 8) m2 (by omega) (by omega) (by omega) (by omega) (by omega) (by omega) ak d8 hx2 v2'
        rw [e3]
        refine hx_cs ?_
        have m3 := r3.ms m2
        rw [rf_ck m3]
        refine hx_bs ?_
        obtain ⟨σ4, e4, r4, v4⟩ := rf_multiplies (t := 5) (a := 2) (b := 14) (u := 8) (v := 8 * k + 1) m3 (by omega) (by omega) (by omega) (by omega) (by omega) (by omega) n8 al (v1'.keep r3 (by decide)) (hy2.keep r3 (by decide))
        rw [e4]
        refine hx_cs ?_
        have m4 := r4.ms m3
        have V4 := (V2.keepM (show rfM m [] [1, 2] nV σ2 σ3 from r3.M) (fun z => z)).keepM (show rfM m [] [1, 2] nV σ3 σ4 from r4.M) (fun z => z)
        rw [rf_sign m4]
        refine hx_bs ?_
        rw [V4.sg m4 hi]
        refine hx_bs ?_
        rw [rf_ck m4]
        refine hx_bs ?_
        have b1 : a.2.1 * vs[k].2.2 < 10000 ^ 900 := by
          have : a.2.1 * vs[k].2.2 < 10000 ^ (9 * k + 1) * 10000 ^ 8 := Nat.mul_lt_mul'' ak d8
          rw [← Nat.pow_add] at this
          exact Nat.lt_of_lt_of_le this (Nat.pow_le_pow_right (by omega) (by omega))
        have b2 : vs[k].2.1 * a.2.2 < 10000 ^ 900 := by
          have : vs[k].2.1 * a.2.2 < 10000 ^ 8 * 10000 ^ (8 * k + 1) := Nat.mul_lt_mul'' n8 al
          rw [← Nat.pow_add] at this
          exact Nat.lt_of_lt_of_le this (Nat.pow_le_pow_right (by omega) (by omega))
        have hs := hq.sg
        obtain ⟨σ5, e5, r5, v5⟩ := rf_joins (s := a.1) (t := vs[k].1) m4 b1 b2 hA.1 (by omega) (v3.keep r4 (by decide)) v4
        rw [e5]
        refine hx_cs ?_
        have m5 := r5.ms m4
        rw [rf_ck m5]
        refine hx_bs ?_
        obtain ⟨σ6, e6, r6, v6⟩ := rf_copies (t := 13) (f := 6) m5 (by omega) (by omega) (by omega) v5
        rw [e6]
        refine hx_cs ?_
        have m6 := r6.ms m5
        refine rf_ja_147 (u := 8 * k + 1) (by omega) m6 v6 ((((hy2.keep r3 (by decide)).keep r4 (by decide)).keep r5 (by decide)).keep r6 (by decide)) ((((v2'.keep r3 (by decide)).keep r4 (by decide)).keep r5 (by decide)).keep r6 (by decide)) al d8 (fun σ7 m7 r7 x7 y7 => ?_)
        have r17 : rfR m RJA σ σ7 := r12.tr ((r3.mo (by decide)).tr ((r4.mo (by decide)).tr ((r5.mo (by decide)).tr ((r6.mo (by decide)).tr (r7.mo (by decide))))))
        refine (ih (k + 1) (jnS a.1 vs[k].1 (a.2.1 * vs[k].2.2) (vs[k].2.1 * a.2.2), jnN a.1 vs[k].1 (a.2.1 * vs[k].2.2) (vs[k].2.1 * a.2.2), a.2.2 * vs[k].2.2) σ7 (by omega) hk2 m7 (hF.tr r17) (hA.sum hq) x7 y7).mo (fun σ8 v g => ?_)
        obtain ⟨e, g1, g2⟩ := g
        refine ⟨e, ?_, g2⟩
        rw [g1, hd, if_neg (by omega), if_neg (by omega)]
        rfl
theorem rf_joinsAll {m vm r b : Nat} {vs : List Qv} {σ : St} (hr : r < 3) (hb : b ≤ 1) (hm : MS σ m) (hR : Rw1 σ m vm r vs) : Hx (fX12_joinsAll σ m (nI r) (nI b)) (fun σ' v => v = iz (allF b vs).1 ∧ rfR m RJA σ σ' ∧ Rv σ' m 13 (allF b vs).2.1 ∧ Rv σ' m 14 (allF b vs).2.2 ∧ Aok vs.length (allF b vs)) := by
  have hl := hR.2.1
  have go : ∀ (x : Nat), x ≤ 1 → (b = 0 ↔ x = 1) → Hx (fX12_joinsAll_12 σ m (nI r) (nI b) m (nI 13) (nI x)) (fun σ' v => v = iz (allF b vs).1 ∧ rfR m RJA σ σ' ∧ Rv σ' m 13 (allF b vs).2.1 ∧ Rv σ' m 14 (allF b vs).2.2 ∧ Aok vs.length (allF b vs)) := by
    intro x hx hbx
    rw [n_fX12_joinsAll_12, rf_ck hm]
    refine hx_bs ?_
    obtain ⟨σ1, e1, r1, v1⟩ := rf_puts (r := 13) (v := x) hm (by omega) (by omega)
    rw [e1]
    refine hx_cs ?_
    have m1 := r1.ms hm
    rw [rf_ck m1]
    refine hx_bs ?_
    obtain ⟨σ2, e2, r2, v2⟩ := rf_puts (r := 14) (v := 1) m1 (by omega) (by omega)
    rw [e2]
    refine hx_cs ?_
    have m2 := r2.ms m1
    have r12 : rfR m RJA σ σ2 := (r1.mo (by decide)).tr (r2.mo (by decide))
    have key := fun (t : Int) (ht : Aok 0 (t, x, 1)) => rf_ja_35 (b := b) hr hb hR FU 0 (t, x, 1) σ2 (by unfold FU; omega) (Nat.zero_le _) m2 r12 ht (v1.keep r2 (by decide)) v2
    by_cases cb0 : b = 0
    · have hx1 : x = 1 := hbx.mp cb0
      subst hx1
      subst cb0
      refine Hx.ce rfl (fun _ => ?_) (fun z => absurd rfl z)
      rw [n_fX12_joinsAll_31]
      refine (key 1 ⟨⟨by show (-1 : Int) ≤ 1; omega, Int.le_refl _⟩, ⟨fun q => (by cases q), fun q => (by cases q)⟩, Nat.one_pos, by show 1 < 10000 ^ 1; omega, by show 1 < 10000 ^ 1; omega⟩).mo (fun σ' v g => ?_)
      obtain ⟨e, g1, g2, g3, g4, g5, g6⟩ := g
      rw [if_pos rfl, List.drop_zero] at g1
      have : e = allF 0 vs := by rw [g1]; unfold allF; rw [if_pos rfl]
      rw [← this]
      exact ⟨g2, g3, g4, g5, g6⟩
    · have hx0 : x = 0 := by
        rcases Nat.lt_or_ge x 1 with q | q
        · omega
        · exact absurd (hbx.mpr (by omega)) cb0
      subst hx0
      refine Hx.ce (sm_eq (by omega) (by omega)) (fun z => absurd z cb0) (fun _ => ?_)
      rw [n_fX12_joinsAll_31]
      refine (key 0 ⟨⟨by show (-1 : Int) ≤ 0; omega, by show (0 : Int) ≤ 1; omega⟩, ⟨fun _ => rfl, fun _ => rfl⟩, Nat.one_pos, by show 0 < 10000 ^ 1; omega, by show 1 < 10000 ^ 1; omega⟩).mo (fun σ' v g => ?_)
      obtain ⟨e, g1, g2, g3, g4, g5, g6⟩ := g
      rw [if_neg cb0, List.drop_zero] at g1
      have : e = allF b vs := by rw [g1]; unfold allF; rw [if_neg cb0]
      rw [← this]
      exact ⟨g2, g3, g4, g5, g6⟩
  rw [n_fX12_joinsAll]
  refine Hx.ce (sm_eq (by omega) (by omega)) (fun c => go 1 (by omega) (by omega)) (fun c => go 0 (by omega) (by omega))
/-- a row's sum, product or mean -/
noncomputable def allQ (w : Nat) (vs : List Qv) : Qv := qmk (allF (if w = 1 then 0 else 1) vs).1 (allF (if w = 1 then 0 else 1) vs).2.1 (if w = 2 then (allF (if w = 1 then 0 else 1) vs).2.2 * vs.length else (allF (if w = 1 then 0 else 1) vs).2.2)
theorem ri_takeAll {σ : St} {m : Nat} {c : Rct} {s : Rst} {z y : Int} (hz : -2147483648 ≤ z ∧ z < 2147483648) (hy : -2147483648 ≤ y ∧ y < 2147483648) (hv : c.1 + 1 < 12600) (h : RI σ m c s) : Hx (fX12_takeAll σ m (iz z) (iz y)) (fun σ' u =>
    (¬ ((0 ≤ z ∧ z ≤ 2) ∧ 0 ≤ y ∧ y ≤ 2) → RO m c s 1 0 s σ σ' u) ∧ ((0 ≤ z ∧ z ≤ 2) ∧ (0 ≤ y ∧ y ≤ 2) → (y = 2 ∧ rowZ s z = [] → RO m c s 2 0 s σ σ' u) ∧ (¬ (y = 2 ∧ rowZ s z = []) →
      (qsm (allQ y.toNat (rowZ s z)) → RO m c s 0 (allQ y.toNat (rowZ s z)).1 (setA s (allQ y.toNat (rowZ s z))) σ σ' u) ∧ (¬ qsm (allQ y.toNat (rowZ s z)) → RO m c s 3 0 s σ σ' u)))) := by
  rw [n_fX12_takeAll]
  refine rf_set0 h.1.1 (fun σ1 r1 m1 f0 => ?_)
  have h1 := h.k0 r1
  rw [rf_ck m1]
  refine hx_bs ?_
  refine Hx.bd (rf_noRow hz m1 f0) (fun σ2 v g => ?_)
  rcases g with ⟨c1, rfl, rfl⟩ | ⟨c1, rfl, r2, f2⟩
  · refine Hx.ce rfl (fun _ => ?_) (fun q => absurd rfl q)
    obtain ⟨i, rfl⟩ := Int.eq_ofNat_of_zero_le c1.1
    have hi : i < 3 := by omega
    obtain ⟨vs, hvs, hR⟩ := h1.2.2.1.row hi
    have hl := hR.2.1
    rw [rowZ_of hvs, ← sm_iz, show nI 2 = iz 2 from rfl]
    refine rf_tin (code := 1) hy (by omega) m1 f0 (by omega) (fun c2 => ?_) (fun c2 σ3 r3 f3 => ?_)
    · refine Hx.ce rfl (fun _ => ?_) (fun q => absurd rfl q)
      obtain ⟨w, rfl⟩ := Int.eq_ofNat_of_zero_le c2.1
      have hw2 : w ≤ 2 := by omega
      rw [← sm_iz, Int.toNat_natCast]
      have go : ¬ ((w : Int) = 2 ∧ vs = []) → Hx (fX12_takeAll_42 σ2 m (nI i) (nI w) m) (fun σ' u => (¬ ((0 ≤ (i : Int) ∧ (i : Int) ≤ 2) ∧ 0 ≤ (w : Int) ∧ (w : Int) ≤ 2) → RO m c s 1 0 s σ σ' u) ∧ ((0 ≤ (i : Int) ∧ (i : Int) ≤ 2) ∧ (0 ≤ (w : Int) ∧ (w : Int) ≤ 2) → ((w : Int) = 2 ∧ vs = [] → RO m c s 2 0 s σ σ' u) ∧ (¬ ((w : Int) = 2 ∧ vs = []) →
      (qsm (allQ w vs) → RO m c s 0 (allQ w vs).1 (setA s (allQ w vs)) σ σ' u) ∧ (¬ qsm (allQ w vs) → RO m c s 3 0 s σ σ' u)))) := by
        intro hne
        rw [n_fX12_takeAll_42, n_fX12_takeAll_47, rf_ck m1]
        refine hx_bs ?_
        rw [rf_fails1 m1 f0]
        refine hx_cs (Hx.ce rfl (fun _ => ?_) (fun q => absurd rfl q))
        have g68 : ∀ b, b = (if w = 1 then 0 else 1) → Hx (fX12_takeAll_68 σ2 m (nI i) (nI w) m (nI i) (nI b)) (fun σ' u => (qsm (allQ w vs) → RO m c s 0 (allQ w vs).1 (setA s (allQ w vs)) σ σ' u) ∧ (¬ qsm (allQ w vs) → RO m c s 3 0 s σ σ' u)) := by
          intro b hb
          have hb1 : b ≤ 1 := by rw [hb]; split <;> omega
          rw [n_fX12_takeAll_68, rf_ck m1]
          refine hx_bs ?_
          refine Hx.bd (rf_joinsAll hi hb1 m1 hR) (fun σ3 v g => ?_)
          obtain ⟨rfl, r3, v3, v4, ak⟩ := g
          have m3 := r3.ms m1
          have R3 : rfM m [] [1, 2] nV σ2 σ3 := r3.M
          have ax := ak.2.2.2.1
          have ay := ak.2.2.2.2
          have g89 : ∀ (σ4 : St) (Y : Nat), rfM m [] [1, 2] nV σ2 σ4 → MS σ4 m → Rv σ4 m 13 (allF b vs).2.1 → Rv σ4 m 14 Y → (Y = if w = 2 then (allF b vs).2.2 * vs.length else (allF b vs).2.2) → 0 < Y → Y < 10000 ^ 470 → Hx (fX12_takeAll_89 σ4 m (iz (allF b vs).1)) (fun σ' u => (qsm (allQ w vs) → RO m c s 0 (allQ w vs).1 (setA s (allQ w vs)) σ σ' u) ∧ (¬ qsm (allQ w vs) → RO m c s 3 0 s σ σ' u)) := by
            intro σ4 Y R4 m4 x4 y4 hY hY0 hYb
            have eq : allQ w vs = qmk (allF b vs).1 (allF b vs).2.1 Y := by
              unfold allQ
              rw [hY, hb]
            rw [eq, n_fX12_takeAll_89, rf_ck m4]
            refine hx_bs ?_
            obtain ⟨σ5, e5, r5, v5⟩ := rf_copies (t := 6) (f := 13) m4 (by omega) (by omega) (by omega) x4
            rw [e5]
            refine hx_cs ?_
            have m5 := r5.ms m4
            rw [rf_ck m5]
            refine hx_bs ?_
            obtain ⟨σ6, e6, r6, v6⟩ := rf_copies (t := 7) (f := 14) m5 (by omega) (by omega) (by omega) (y4.keep r5 (by decide))
            rw [e6]
            refine hx_cs ?_
            have m6 := r6.ms m5
            have R6 : rfM m [] [1, 2] nV σ2 σ6 := R4.tr (r5.M.tr r6.M)
            have h6 := h1.k12 R6
            rw [rf_ck m6]
            refine hx_bs ?_
            have hxb : (allF b vs).2.1 < 10000 ^ 470 := Nat.lt_of_lt_of_le ax (Nat.pow_le_pow_right (by omega) (by omega))
            have hsg : (allF b vs).2.1 ≠ 0 → (allF b vs).1 = 1 ∨ (allF b vs).1 = -1 := fun q => by
              have k1 := ak.1
              have k2 := ak.2.1
              have : (allF b vs).1 ≠ 0 := fun z => q (k2.mp z)
              omega
            refine Hx.bd (rf_keepsMade (s := (allF b vs).1) m6 h6.2.2.2.1.1 (by omega) (show 470 ≤ 978 by omega) hxb hYb hY0 hsg (v5.keep r6 (by decide)) v6) (fun σ7 v g => ?_)
            obtain ⟨r7, g1, g2⟩ := g
            have m7 := r7.ms m6
            have f7 := (f0.keep R6 (by decide)).keep r7 (by decide)
            have R7 : rfM m [5] [1, 2, 42, 44] (fun j => c.1 ≤ j) σ6 σ7 := r7.mo ⟨by decide, by decide⟩ (fun j q => by have q : j = c.1 := q; omega)
            by_cases sm : qsm (qmk (allF b vs).1 (allF b vs).2.1 Y)
            · obtain ⟨rfl, k5, kV⟩ := g1 sm
              have h7 := h6.mk5 R7 (by decide) k5 ⟨by omega, by omega⟩
              refine Hx.ce (nIm (by omega)) (fun z => z.elim) (fun _ => ?_)
              rw [n_fX12_takeAll_124, rf_ck m7]
              refine hx_bs ?_
              rw [rf_fails1 m7 f7]
              refine hx_cs (Hx.ce rfl (fun _ => ?_) (fun q => absurd rfl q))
              rw [rf_ck m7]
              refine hx_bs ?_
              refine Hx.bd (ri_becomes (c := (c.1 + 1, c.2)) h7 hv kV (Or.inr (Nat.lt_succ_self _))) (fun σ8 v g => ?_)
              obtain ⟨rfl, r8, c', h8, k1, k2⟩ := g
              refine Hx.ret ⟨fun _ => ⟨(r1.1.tr R6.1).tr (r7.1.tr r8.1), f7.keep r8 (by decide), fun _ => rfl, c', h8, ?_⟩, fun z => absurd sm z⟩
              have k1 : c.1 + 1 ≤ c'.1 ∧ c'.1 ≤ c.1 + 1 + 1 := k1
              unfold RBd
              rw [k2]
              show c'.1 + s.1.length ≤ _ ∧ c.2.1 + s.1.length ≤ _ ∧ c.2.2 ≤ _
              omega
            · obtain ⟨rfl, k5⟩ := g2 sm
              have h7 : RI σ7 m c s := h6.mk5 R7 (by decide) k5 ⟨Nat.le_refl _, by omega⟩
              refine Hx.ce rfl (fun _ => ?_) (fun z => absurd rfl z)
              rw [n_fX12_takeAll_124, rf_ck m7]
              refine hx_bs ?_
              refine Hx.bd (rf_fails0 m7 f7 (show 0 < 3 by omega) (by omega)) (fun σ8 v g => ?_)
              obtain ⟨rfl, r8, f8⟩ := g
              refine Hx.ce (sm_eq (show 1 < 2147483648 by omega) (by omega)) (fun z => absurd z (by omega)) (fun _ => ?_)
              exact Hx.ret ⟨fun z => absurd z sm, fun _ => ⟨(r1.1.tr R6.1).tr (r7.1.tr r8.1), f8, fun q => (by cases q), c, h7.k0 r8, RBd.rf rfl⟩⟩
          have e8 : 10000 ^ (8 * vs.length + 1) ≤ 10000 ^ 401 := Nat.pow_le_pow_right (by omega) (by omega)
          refine Hx.ce (show (nI w = nI 2) = (w = 2) from sm_eq (by omega) (by omega)) (fun c3 => ?_) (fun c3 => ?_)
          · have hne2 : vs ≠ [] := fun q => hne ⟨by omega, q⟩
            have hlp : 0 < vs.length := List.length_pos_iff.mpr hne2
            rw [rf_rowMany m3]
            refine hx_bs ?_
            rw [ld_rowMany m3 hi, R3.ar 37 ⟨by decide, by omega, by omega⟩, hR.1]
            refine hx_bs ?_
            rw [rf_ck m3]
            refine hx_bs ?_
            obtain ⟨σ4, e4, r4, v5⟩ := rf_times (t := 14) (c := vs.length) (u := 401) m3 (by omega) (by omega) (by omega) (by omega) v4
            rw [e4]
            refine hx_cs ?_
            refine g89 σ4 _ (R3.tr r4.M) (r4.ms m3) (v3.keep r4 (by decide)) v5 (by rw [if_pos c3]) (Nat.mul_pos ak.2.2.1 hlp) ?_
            have : (allF b vs).2.2 * vs.length < 10000 ^ 401 * 10000 ^ 1 := Nat.mul_lt_mul'' (by omega) (by omega)
            rw [← Nat.pow_add] at this
            exact Nat.lt_of_lt_of_le this (Nat.pow_le_pow_right (by omega) (by omega))
          · refine g89 σ3 _ R3 m3 v3 v4 (by rw [if_neg c3]) ak.2.2.1 ?_
            exact Nat.lt_of_lt_of_le ay (Nat.pow_le_pow_right (by omega) (by omega))
        have fin : ∀ (σ' : St) (u : Int32), ((qsm (allQ w vs) → RO m c s 0 (allQ w vs).1 (setA s (allQ w vs)) σ σ' u) ∧ (¬ qsm (allQ w vs) → RO m c s 3 0 s σ σ' u)) → (¬ ((0 ≤ (i : Int) ∧ (i : Int) ≤ 2) ∧ 0 ≤ (w : Int) ∧ (w : Int) ≤ 2) → RO m c s 1 0 s σ σ' u) ∧ ((0 ≤ (i : Int) ∧ (i : Int) ≤ 2) ∧ (0 ≤ (w : Int) ∧ (w : Int) ≤ 2) → ((w : Int) = 2 ∧ vs = [] → RO m c s 2 0 s σ σ' u) ∧ (¬ ((w : Int) = 2 ∧ vs = []) →
      (qsm (allQ w vs) → RO m c s 0 (allQ w vs).1 (setA s (allQ w vs)) σ σ' u) ∧ (¬ qsm (allQ w vs) → RO m c s 3 0 s σ σ' u))) := fun σ' u g => ⟨fun z => absurd ⟨c1, c2⟩ z, fun _ => ⟨fun z => absurd z hne, fun _ => g⟩⟩
        refine Hx.ce (show (nI w = nI 1) = (w = 1) from sm_eq (by omega) (by omega)) (fun c3 => ?_) (fun c3 => ?_)
        · exact (g68 0 (by rw [if_pos c3])).mo (fun σ' u g => fin σ' u g)
        · exact (g68 1 (by rw [if_neg c3])).mo (fun σ' u g => fin σ' u g)
      refine Hx.ce (show (nI w < iz 2) = (w < 2) from sm_lt (a := w) (b := 2) (by omega) (by omega)) (fun c3 => ?_) (fun c3 => ?_)
      · exact go (fun q => by omega)
      · have hw : w = 2 := by omega
        rw [rf_rowMany m1]
        refine hx_bs ?_
        rw [ld_rowMany m1 hi, hR.1]
        refine hx_bs ?_
        refine Hx.ce (sm_le (by omega) (by omega)) (fun c4 => ?_) (fun c4 => ?_)
        · have he : vs = [] := List.eq_nil_of_length_eq_zero (by omega)
          rw [n_fX12_takeAll_47, rf_ck m1]
          refine hx_bs ?_
          refine Hx.bd (rf_fails0 m1 f0 (show 0 < 2 by omega) (by omega)) (fun σ8 v g => ?_)
          obtain ⟨rfl, r8, f8⟩ := g
          refine Hx.ce (sm_eq (show 1 < 2147483648 by omega) (by omega)) (fun z => absurd z (by omega)) (fun _ => ?_)
          exact Hx.ret ⟨fun z => absurd ⟨c1, c2⟩ z, fun _ => ⟨fun _ => ⟨r1.1.tr r8.1, f8, fun q => (by cases q), c, h1.k0 r8, RBd.rf rfl⟩, fun z => absurd ⟨by omega, he⟩ z⟩⟩
        · exact go (fun q => c4 (by rw [q.2]; exact Nat.le_refl _))
    · refine Hx.ce (sm_eq (show 1 < 2147483648 by omega) (by omega)) (fun z => absurd z (by omega)) (fun _ => ?_)
      exact Hx.ret ⟨fun _ => ⟨r1.1.tr r3.1, f3, fun q => (by cases q), c, h1.k0 r3, RBd.rf rfl⟩, fun z => absurd z.2 c2⟩
  · refine Hx.ce (sm_eq (show 1 < 2147483648 by omega) (by omega)) (fun z => absurd z (by omega)) (fun _ => ?_)
    exact Hx.ret ⟨fun _ => ⟨r1.1.tr r2.1, f2, fun q => (by cases q), c, h1.k0 r2, RBd.rf rfl⟩, fun z => absurd z.1 c1⟩
