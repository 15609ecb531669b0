/-! ===== new fractions of the class ===== -/
def s0 (_r : Nat) : Prop := False
theorem cW.alloc {x k c : Nat} {S : Nat → Prop} {σ σ' : St} (hp : HP (PX x) σ) (hz : sz σ ≤ sz σ') (hold : ∀ b, b < sz σ → sK σ' b = sK σ b ∧ sN σ' b = sN σ b ∧ samC σ σ' b) (hout : ∀ b, sz σ' ≤ b → sK σ' b = 0)
    (hnat : ∀ a, sz σ ≤ a → sK σ' a = 8 → sz σ ≤ lb σ' a ∧ sK σ' (lb σ' a) = 100 ∧ ∀ b, sz σ ≤ b → sK σ' b = 8 → lb σ' b = lb σ' a → b = a) (hk : sw σ' ≤ sw σ + k) (hc : sc σ' ≤ sc σ + c) : cW x S k c σ σ' := by
  obtain ⟨ho, hP⟩ := hp
  have hlb : ∀ b, b < sz σ → lb σ' b = lb σ b := fun b hb => (hold b hb).2.2.2.1 _
  have h0z : 0 < sz σ := by
    have h19 := hP (x + 19) (by simp)
    obtain ⟨u, l, n, w, h, _⟩ := h19
    have := ho.lt (a := x + 19) (by rw [h.1]; omega)
    omega
  have hn : ∀ b z, Nt σ b z → Nt σ' b z := by
    rintro b z ⟨l, n, w, ⟨g1, g2, g3, g4, g5⟩, ⟨u1, u2, u3⟩, g7⟩
    have hb : b < sz σ := ho.lt (by rw [g1]; omega)
    have hl : l < sz σ := ho.lt (by rw [g3]; omega)
    have e1 := hold b hb
    have e2 := hold l hl
    exact ⟨l, n, w, ⟨by rw [e1.1]; exact g1, by rw [e1.2.2.2.1]; exact g2, by rw [e2.1]; exact g3, by rw [e2.2.1]; exact g4, g5⟩, ⟨by rw [e1.2.2.1]; exact u1, fun i hi => by rw [e2.2.2.2.2.1]; exact u2 i hi, u3⟩, g7⟩
  have ho' : Own σ' := by
    refine ⟨⟨by rw [(hold 0 h0z).1]; exact ho.1.1, hout⟩, fun a ha => ?_⟩
    by_cases c : a < sz σ
    · have ha8 : sK σ a = 8 := by rw [← (hold a c).1]; exact ha
      have hl := ho.lb ha8
      refine ⟨by rw [hlb a c, (hold _ hl).1]; exact (ho.2 a ha8).1, fun b hb e => ?_⟩
      by_cases c2 : b < sz σ
      · have hb8 : sK σ b = 8 := by rw [← (hold b c2).1]; exact hb
        exact (ho.2 a ha8).2 b hb8 (by rw [← hlb b c2, ← hlb a c]; exact e)
      · exfalso
        have := (hnat b (by omega) hb).1
        rw [e, hlb a c] at this
        omega
    · obtain ⟨q1, q2, q3⟩ := hnat a (by omega) ha
      refine ⟨q2, fun b hb e => ?_⟩
      by_cases c2 : b < sz σ
      · exfalso
        have hb8 : sK σ b = 8 := by rw [← (hold b c2).1]; exact hb
        have := ho.lb hb8
        rw [hlb b c2] at e
        omega
      · exact q3 b (by omega) hb e
  have hPot : Pot (PX x) σ' = Pot (PX x) σ := Pot_same fun a ha => by
    obtain ⟨u, l, n, w, h, _⟩ := hP a ha
    have hz := ho.lt (a := a) (by rw [h.1]; omega)
    rw [hlb a hz, (hold _ (ho.lb h.1)).2.1]
  refine ⟨⟨⟨ho, hP⟩, ho', fun a ha => ?_⟩, ⟨hz, fun b hb => ⟨(hold b hb).1, (hold b hb).2.1, fun f _ => (hold b hb).2.2.2.1 f⟩⟩, fun b hb _ _ => (hold b hb).2.2, fun a ha => ?_, by rw [hPot]; omega, by rw [hPot]; omega⟩
  · obtain ⟨u, hu⟩ := hP a ha
    exact ⟨u, hn a u hu⟩
  · by_cases c : a < sz σ
    · exact Or.inl ⟨c, hlb a c⟩
    · exact Or.inr ⟨(hnat a (by omega) ha).1, fun q => absurd q c⟩
theorem nwA4 {σ : St} : nwA 0 (nI 4) σ = some (nw 100 4 4 σ) := nwA_ok (m := 4) (by omega)
/-- a fraction made, both parts 0 -/
def frN (σ : St) : St := wF (wF (nw 100 4 4 (nw 8 0 2 (wF (wF (nw 100 4 4 (nw 8 0 2 (nw 6 0 3 σ))) (fid 7 0) (sz σ + 1) (sz σ + 2)) (fid 5 1) (sz σ) (sz σ + 1)))) (fid 7 0) (sz σ + 3) (sz σ + 4)) (fid 5 2) (sz σ) (sz σ + 3)
theorem frN_K (σ : St) (b : Nat) : sK (frN σ) b = if b = sz σ + 4 then 100 else if b = sz σ + 3 then 8 else if b = sz σ + 2 then 100 else if b = sz σ + 1 then 8 else if b = sz σ then 6 else sK σ b := rfl
theorem frN_N (σ : St) (b : Nat) : sN (frN σ) b = if b = sz σ + 4 then 4 else if b = sz σ + 3 then 0 else if b = sz σ + 2 then 4 else if b = sz σ + 1 then 0 else if b = sz σ then 0 else sN σ b := rfl
theorem frN_I (σ : St) (f b : Nat) : sI (frN σ) f b = if b = sz σ + 4 then 0 else if b = sz σ + 3 then 0 else if b = sz σ + 2 then 0 else if b = sz σ + 1 then 0 else if b = sz σ then 0 else sI σ f b := rfl
theorem frN_A (σ : St) (b j : Nat) : sA (frN σ) b j = if b = sz σ + 4 then 0 else if b = sz σ + 3 then 0 else if b = sz σ + 2 then 0 else if b = sz σ + 1 then 0 else if b = sz σ then 0 else sA σ b j := rfl
theorem frN_J (σ : St) (b j : Nat) : sJ (frN σ) b j = if b = sz σ + 4 then 0 else if b = sz σ + 3 then 0 else if b = sz σ + 2 then 0 else if b = sz σ + 1 then 0 else if b = sz σ then 0 else sJ σ b j := rfl
theorem frN_Q (σ : St) (b j : Nat) : sQ (frN σ) b j = if b = sz σ + 4 then 0 else if b = sz σ + 3 then 0 else if b = sz σ + 2 then 0 else if b = sz σ + 1 then 0 else if b = sz σ then 0 else sQ σ b j := rfl
theorem frN_F (σ : St) (f b : Nat) : sF (frN σ) f b = if f = fid 5 2 ∧ b = sz σ then sz σ + 3 else if f = fid 7 0 ∧ b = sz σ + 3 then sz σ + 4 else if b = sz σ + 4 then 0 else if b = sz σ + 3 then 0 else if f = fid 5 1 ∧ b = sz σ then sz σ + 1 else if f = fid 7 0 ∧ b = sz σ + 1 then sz σ + 2 else if b = sz σ + 2 then 0 else if b = sz σ + 1 then 0 else if b = sz σ then 0 else sF σ f b := rfl
theorem frN_z (σ : St) : sz (frN σ) = sz σ + 5 ∧ sc (frN σ) = sc σ + 5 ∧ sw (frN σ) = sw σ + 15 := ⟨rfl, rfl, rfl⟩
theorem frN_W {x : Nat} {S : Nat → Prop} {σ : St} (hp : HP (PX x) σ) : cW x S 15 5 σ (frN σ) := by
  have ho := hp.1
  obtain ⟨z1, z2, z3⟩ := frN_z σ
  refine cW.alloc hp (by omega) (fun b hb => ?_) (fun b hb => ?_) (fun a ha h8 => ?_) (by omega) (by omega)
  · refine ⟨?_, ?_, ?_, ?_, ?_, ?_, ?_⟩
    · rw [frN_K, if_neg (by omega), if_neg (by omega), if_neg (by omega), if_neg (by omega), if_neg (by omega)]
    · rw [frN_N, if_neg (by omega), if_neg (by omega), if_neg (by omega), if_neg (by omega), if_neg (by omega)]
    · intro f
      rw [frN_I, if_neg (by omega), if_neg (by omega), if_neg (by omega), if_neg (by omega), if_neg (by omega)]
    · intro f
      rw [frN_F, if_neg (by omega), if_neg (by omega), if_neg (by omega), if_neg (by omega), if_neg (by omega), if_neg (by omega), if_neg (by omega), if_neg (by omega), if_neg (by omega)]
    · intro j
      rw [frN_A, if_neg (by omega), if_neg (by omega), if_neg (by omega), if_neg (by omega), if_neg (by omega)]
    · intro j
      rw [frN_J, if_neg (by omega), if_neg (by omega), if_neg (by omega), if_neg (by omega), if_neg (by omega)]
    · intro j
      rw [frN_Q, if_neg (by omega), if_neg (by omega), if_neg (by omega), if_neg (by omega), if_neg (by omega)]
  · rw [frN_K, if_neg (by omega), if_neg (by omega), if_neg (by omega), if_neg (by omega), if_neg (by omega)]
    exact ho.1.2 b (by omega)
  · have hlb1 : lb (frN σ) (sz σ + 1) = sz σ + 2 := by
      show sF (frN σ) (fid 7 0) (sz σ + 1) = _
      rw [frN_F, if_neg (by omega), if_neg (by omega), if_neg (by omega), if_neg (by omega), if_neg (by omega), if_pos ⟨rfl, rfl⟩]
    have hlb3 : lb (frN σ) (sz σ + 3) = sz σ + 4 := by
      show sF (frN σ) (fid 7 0) (sz σ + 3) = _
      rw [frN_F, if_neg (by omega), if_pos ⟨rfl, rfl⟩]
    have h13 : ∀ b, sz σ ≤ b → sK (frN σ) b = 8 → b = sz σ + 1 ∨ b = sz σ + 3 := by
      intro b hb h
      rw [frN_K] at h
      by_cases c4 : b = sz σ + 4
      · rw [if_pos c4] at h; omega
      · by_cases c3 : b = sz σ + 3
        · exact Or.inr c3
        · by_cases c1 : b = sz σ + 1
          · exact Or.inl c1
          · exfalso
            rw [if_neg c4, if_neg c3] at h
            by_cases c2 : b = sz σ + 2
            · rw [if_pos c2] at h; omega
            · rw [if_neg c2, if_neg c1] at h
              by_cases c0 : b = sz σ
              · rw [if_pos c0] at h; omega
              · rw [if_neg c0, ho.1.2 b (by omega)] at h; omega
    rcases h13 a ha h8 with rfl | rfl
    · rw [hlb1]
      refine ⟨by omega, by rw [frN_K, if_neg (by omega), if_neg (by omega), if_pos rfl], fun b hb hb8 e => ?_⟩
      rcases h13 b hb hb8 with rfl | rfl
      · rfl
      · rw [hlb3] at e; omega
    · rw [hlb3]
      refine ⟨by omega, by rw [frN_K, if_pos rfl], fun b hb hb8 e => ?_⟩
      rcases h13 b hb hb8 with rfl | rfl
      · rw [hlb1] at e; omega
      · rfl
theorem frN_FX (σ : St) : FX (frN σ) (sz σ) 0 0 0 := by
  have hn : ∀ a, (a = sz σ + 1 ∨ a = sz σ + 3) → Nt (frN σ) a 0 := by
    intro a ha
    refine ⟨a + 1, 4, 0, ⟨?_, ?_, ?_, ?_, by omega⟩, ⟨?_, fun k hk => absurd hk (Nat.not_lt_zero _), by rw [Nat.pow_zero]; omega⟩, by omega, Or.inl rfl⟩
    · rcases ha with rfl | rfl
      · rw [frN_K, if_neg (by omega), if_neg (by omega), if_neg (by omega), if_pos rfl]
      · rw [frN_K, if_neg (by omega), if_pos rfl]
    · rcases ha with rfl | rfl
      · rw [frN_F, if_neg (by omega), if_neg (by omega), if_neg (by omega), if_neg (by omega), if_neg (by omega), if_pos ⟨rfl, rfl⟩]
      · rw [frN_F, if_neg (by omega), if_pos ⟨rfl, rfl⟩]
    · rcases ha with rfl | rfl
      · rw [frN_K, if_neg (by omega), if_neg (by omega), if_pos rfl]
      · rw [frN_K, if_pos rfl]
    · rcases ha with rfl | rfl
      · rw [frN_N, if_neg (by omega), if_neg (by omega), if_pos rfl]
      · rw [frN_N, if_pos rfl]
    · rcases ha with rfl | rfl
      · rw [frN_I, if_neg (by omega), if_neg (by omega), if_neg (by omega), if_pos rfl]; rfl
      · rw [frN_I, if_neg (by omega), if_pos rfl]; rfl
  have k6 : sK (frN σ) (sz σ) = 6 := by rw [frN_K, if_neg (by omega), if_neg (by omega), if_neg (by omega), if_neg (by omega), if_pos rfl]
  refine ⟨⟨k6, ⟨?_, ?_⟩, ⟨?_, ?_⟩, ?_, ?_⟩, ⟨k6, ?_⟩, hn _ (Or.inl rfl), hn _ (Or.inr rfl)⟩
  · rw [frN_F, if_neg (fun q => absurd q.1 (by decide)), if_neg (by omega), if_neg (by omega), if_neg (by omega), if_pos ⟨rfl, rfl⟩]
  · rw [frN_F, if_pos ⟨rfl, rfl⟩]
  · rw [frN_K, if_neg (by omega), if_neg (by omega), if_neg (by omega), if_pos rfl]
  · rw [frN_K, if_neg (by omega), if_neg (by omega), if_pos rfl]
  · rw [frN_K, if_neg (by omega), if_pos rfl]
  · rw [frN_K, if_pos rfl]
  · rw [frN_I, if_neg (by omega), if_neg (by omega), if_neg (by omega), if_neg (by omega), if_pos rfl]; rfl
theorem fr_nat {σ : St} {k : St → Unit → Option (St × Unit)} {Q : St → Unit → Prop} (h0 : sz σ ≠ 0) (h : Hx (k (wF (nw 100 4 4 (nw 8 0 2 σ)) (fid 7 0) (sz σ) (sz σ + 1)) ()) Q) : Hx (cb (fX3_init (nw 8 0 2 σ) (sz σ)) k) Q := by
  rw [n_fX3_init]
  have e0 : ckP (decide (¬ sz σ = 0)) = some () := by
    rw [decide_eq_true h0]; rfl
  rw [e0]
  simp only [sm_bind, nwA4, sm_nm]
  have k8 : sK (nw 100 4 4 (nw 8 0 2 σ)) (sz σ) = 8 := by
    show (if sz σ = sz σ + 1 then 100 else if sz σ = sz σ then 8 else _) = 8
    rw [if_neg (by omega), if_pos rfl]
  rw [sm_pF k8]
  exact h
theorem fr_k8 (σ : St) : ckK (nw 8 0 2 σ) 8 (sz σ) = some () := sm_ckK (by show (if sz σ = sz σ then 8 else _) = 8; rw [if_pos rfl])
/-- the beginning of both constructors -/
theorem cf_initE {σ : St} (h0 : sz σ ≠ 0) {k : St → Option (St × Unit)} {Q : St → Unit → Prop} (h : Hx (k (frN σ)) Q) :
    Hx (Option.bind (ckP (decide (¬ sz σ = 0))) fun _ => nm (nw 8 0 2 (nw 6 0 3 σ)) fun σ2 => nm (sz (nw 6 0 3 σ)) fun a3 => Option.bind (ckK σ2 8 a3) fun _ => cb (fX3_init σ2 a3) fun σ4 v5 => Option.bind (pF σ4 5 1 (sz σ) a3) fun σ7 => nm (nw 8 0 2 σ7) fun σ8 => nm (sz σ7) fun a9 => Option.bind (ckK σ8 8 a9) fun _ => cb (fX3_init σ8 a9) fun σ10 v11 => Option.bind (pF σ10 5 2 (sz σ) a9) fun σ13 => k σ13) Q := by
  have e0 : ckP (decide (¬ sz σ = 0)) = some () := by rw [decide_eq_true h0]; rfl
  rw [e0]
  refine hx_bs (hx_nm (hx_nm ?_))
  rw [fr_k8]
  refine hx_bs (fr_nat (by show sz σ + 1 ≠ 0; omega) ?_)
  have k6 : sK (wF (nw 100 4 4 (nw 8 0 2 (nw 6 0 3 σ))) (fid 7 0) (sz (nw 6 0 3 σ)) (sz (nw 6 0 3 σ) + 1)) (sz σ) = 5 + 1 := by
    show (if sz σ = sz σ + 1 + 1 then 100 else if sz σ = sz σ + 1 then 8 else if sz σ = sz σ then 6 else _) = 6
    rw [if_neg (by omega), if_neg (by omega), if_pos rfl]
  rw [sm_pF k6]
  refine hx_bs (hx_nm (hx_nm ?_))
  rw [fr_k8]
  refine hx_bs (fr_nat (by show sz σ + 1 + 1 + 1 ≠ 0; omega) ?_)
  rw [sm_pF (ci := 5) (by
    show (if sz σ = sz σ + 1 + 1 + 1 + 1 then 100 else if sz σ = sz σ + 1 + 1 + 1 then 8 else if sz σ = sz σ + 1 + 1 then 100 else if sz σ = sz σ + 1 then 8 else if sz σ = sz σ then 6 else _) = 6
    rw [if_neg (by omega), if_neg (by omega), if_neg (by omega), if_neg (by omega), if_pos rfl])]
  exact hx_bs h
theorem HP.z0 {x : Nat} {σ : St} (hp : HP (PX x) σ) : x + 19 < sz σ := by
  obtain ⟨u, l, n, w, h, _⟩ := hp.2 (x + 19) (by simp)
  exact hp.1.lt (by rw [h.1]; omega)
theorem cf_init {x : Nat} {σ : St} (hp : HP (PX x) σ) : Hx (fX1_init (nw 6 0 3 σ) (sz σ)) (fun σ' _ => cW x s0 15 5 σ σ' ∧ FX σ' (sz σ) 0 0 1) := by
  have hz := hp.z0
  have hF := frN_W (S := s0) hp
  obtain ⟨fsA, sgA, hN, hD⟩ := frN_FX σ
  rw [n_fX1_init]
  refine cf_initE (by omega) (k := fun σ13 => Option.bind (gF σ13 5 2 (sz σ)) fun v14 => Option.bind (ckK σ13 8 v14) fun _ => cb (fX3_setSmall σ13 v14 (nJ 1)) fun σ15 v16 => some (σ15, (()))) ?_
  simp only [fx_d fsA, sm_bind, fx_kd fsA]
  refine Hx.bd (cw_setSmall hF.hp hD (by omega)) (fun σ1 _ h => ?_)
  obtain ⟨hF1, hD1⟩ := h
  exact Hx.ret ⟨hF.tr0 hF1 (fun r hr hs => by simp only [s1] at hs; omega), fsA.kW hF1, sgA.kW hF1 (by simp only [s1]; omega), hN.kW hF1 (by simp only [s1]; omega), hD1⟩
theorem rm_of {P : List Nat} {σ : St} {a y v : Nat} (h : Nt σ a y) (hv : sml (v) 4) : rm P σ a v := by
  obtain ⟨l, n, w, h⟩ := h
  refine Or.inr (Nat.lt_of_lt_of_le hv (bp_mono ?_))
  show 4 ≤ sN σ (sF σ (fid 7 0) a)
  rw [h.1.2.1, h.1.2.2.2.1]
  exact h.1.2.2.2.2.1
/-- a copy made -/
theorem cf_copy {x b n d : Nat} {s : Int} {σ : St} (hp : HP (PX x) σ) (hB : FX σ b s n d) (hn : sml (n) 4) (hd : sml (d) 4) : Hx (fX1_init_ (nw 6 0 3 σ) (sz σ) b) (fun σ' _ => cW x s0 15 5 σ σ' ∧ FX σ' (sz σ) s n d) := by
  have hz := hp.z0
  have hF := frN_W (S := s0) hp
  have hbz : b < sz σ := hp.1.lt (by rw [hB.1.1]; omega)
  have hbz1 : b + 1 < sz σ := hp.1.lt (by rw [hB.1.2.2.1.1]; omega)
  have hbz3 : b + 3 < sz σ := hp.1.lt (by rw [hB.1.2.2.2.1]; omega)
  have hA := frN_FX σ
  have hB1 := hB.kW hF ⟨fun h => h, fun h => h, fun h => h⟩
  rw [n_fX1_init_]
  refine cf_initE (by omega) (k := fun σ13 => Option.bind (ckK σ13 6 (sz σ)) fun _ => cb (fX1_setTo σ13 (sz σ) b) fun σ14 v15 => some (σ14, (()))) ?_
  rw [fx_k hA.1]
  refine hx_bs ?_
  refine Hx.bd (cf_setTo hF.hp hA hB1 (by omega) (rm_of hA.2.2.1 hn) (rm_of hA.2.2.2 hd) (lt_bp hn (by omega)) (lt_bp hd (by omega))) (fun σ1 _ h => ?_)
  exact Hx.ret ⟨hF.tr0 h.1 (fun r hr hs => by simp only [s3] at hs; omega), h.2⟩
