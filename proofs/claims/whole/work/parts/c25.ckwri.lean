/-! ===== calls of the one that was built: write, as what it holds ===== -/
theorem rpf_up (c : Nat) : ∀ (n m k p : Nat), n ≤ m → (rpf c n k p ≠ -1 → rpf c m k p = rpf c n k p) ∧ (rpf c n k p = -1 → rpf c m k p = -1 ∨ ((k + n : Nat) : Int) ≤ rpf c m k p)
  | 0, 0, k, p, _ => ⟨fun h => absurd rfl h, fun _ => Or.inl rfl⟩
  | 0, m + 1, k, p, _ => by
    refine ⟨fun h => absurd rfl h, fun _ => ?_⟩
    have e : rpf c (m + 1) k p = if p * 10 % c = 1 then (k : Int) else rpf c m (k + 1) (p * 10 % c) := rfl
    rw [e]
    by_cases q : p * 10 % c = 1
    · rw [if_pos q]; exact Or.inr (Int.le_refl _)
    · rw [if_neg q]
      rcases (rpf_up c 0 m (k + 1) (p * 10 % c) (Nat.zero_le _)).2 rfl with h | h
      · exact Or.inl h
      · exact Or.inr (by omega)
  | n + 1, 0, k, p, h => absurd h (by omega)
  | n + 1, m + 1, k, p, h => by
    have e : ∀ n, rpf c (n + 1) k p = if p * 10 % c = 1 then (k : Int) else rpf c n (k + 1) (p * 10 % c) := fun _ => rfl
    rw [e, e]
    by_cases q : p * 10 % c = 1
    · rw [if_pos q, if_pos q]
      exact ⟨fun _ => rfl, fun z => by omega⟩
    · rw [if_neg q, if_neg q]
      obtain ⟨h1, h2⟩ := rpf_up c n m (k + 1) (p * 10 % c) (by omega)
      exact ⟨h1, fun z => (h2 z).imp_right (fun y => by omega)⟩
/-- the text is made empty -/
theorem ki_empt {σ : St} {x o : Nat} {s : Kst} (h : KI σ x o s) : Hx (fJ4_setLength_d00df σ (x + 9) (nI 0)) (fun σ' _ => TxK x o s σ' σ' [] ∧ cO x 0 0 σ σ') := by
  have hW := h.2.2.1.2.2
  refine (sbd_clear h.1.1 hW.1).mo (fun σ1 _ g => ?_)
  obtain ⟨hF, hW1, e⟩ := g
  obtain ⟨h1, h2⟩ := h.fr (wr := []) hF (fun r hr => Or.inr (Or.inl hr)) ⟨hW1, by rw [e]; exact hW.2⟩
  exact ⟨⟨h1, 0, 0, cO.rf h1.1.1, by omega, by omega, Or.inl rfl⟩, h2.mo (fun r _ hr => Or.inl (by have : r = x + 9 := hr; omega)) (Nat.le_refl _) (Nat.le_refl _)⟩
theorem ki_write {σ : St} {x o b : Nat} {s : Kst} (hb : b ≤ 1) (h : KI σ x o s) : Hx (fX11_write σ x (nI b)) (fun σ' v => (b = 0 → KV x 1200 600 (wrK s (wrF s.2.2.2.1)) (wrF s.2.2.2.1).length σ σ' v) ∧ (b = 1 → okD s.2.2.2.1 → KV x 1200 600 (wrK s (wrD s.2.2.2.1)) (wrD s.2.2.2.1).length σ σ' v) ∧ (b = 1 → ¬ okD s.2.2.2.1 → KV x 1200 600 s (-1) σ σ' v)) := by
  obtain ⟨hp, hx, _, _, hQ⟩ := id h.1
  have hA := h.2.2.1.1
  have hq : qok s.2.2.2.1 := hA.2.2.1
  have hd : 0 < s.2.2.2.1.2.2 ∧ s.2.2.2.1.2.2 < dig30 := ⟨hq.2.2.1, hq.2.2.2.2.2⟩
  have hbd := twoy_b hd
  have e30 : dig30 < 10 ^ 36 := by unfold dig30; omega
  have hn36 : s.2.2.2.1.2.1 < 10 ^ 36 := by have := hq.2.2.2.2.1; omega
  have hd36 : s.2.2.2.1.2.2 < 10 ^ 36 := by omega
  have hw36 : s.2.2.2.1.2.1 / s.2.2.2.1.2.2 < 10 ^ 36 := Nat.lt_of_le_of_lt (Nat.div_le_self _ _) hn36
  have hsl : (sgW s.2.2.2.1).length ≤ 1 := by
    unfold sgW
    split
    · exact Nat.le_refl _
    · exact Nat.zero_le _
  have fin : ∀ (σ1 σ2 : St) (wr : List Nat), cO x 0 0 σ σ1 → TxK x o s σ1 σ2 wr → wr.length ≤ 300 → Hx (Option.bind (gF σ2 15 10 x) fun v32 => Option.bind (ckK σ2 2 v32) fun _ => cb (fJ4_length_8abf5 σ2 v32) fun σ33 v34 => some (σ33, v34)) (KV x 1200 600 (wrK s wr) wr.length σ) := by
    intro σ1 σ2 wr hO hT hl
    obtain ⟨hW, _, _, _, e10, ec⟩ := hT.wr
    rw [e10]
    refine hx_bs ?_
    rw [ec]
    refine hx_bs ?_
    rw [sbd_len hW]
    refine hx_cs (Hx.ret ⟨sm_iz _, ⟨o, hT.1⟩, ?_⟩)
    exact (hO.tr hT.cost).mo (by omega) (by omega)
  rw [n_fX11_write]
  refine Hx.ce (sm_eq (by omega) (by omega)) (fun c => ?_) (fun c => ?_)
  · have hlF : (wrF s.2.2.2.1).length ≤ 300 := by
      have l1 := dgx_len hn36
      have l2 := dgx_len hd36
      unfold wrF
      rw [List.length_append, List.length_append, cod_len]
      split
      · rw [List.length_nil]; omega
      · rw [List.length_append, cod_len, List.length_singleton]; omega
    rw [show gF σ 15 10 x = some (x + 9) from hx.gf 15 10 0 9 (by decide) (by decide)]
    refine hx_bs ?_
    rw [sm_ckK h.2.2.1.2.2.1.1]
    refine hx_bs ?_
    refine Hx.bd (ki_empt h) (fun σ1 _ g => ?_)
    obtain ⟨hT, hO⟩ := g
    obtain ⟨hW1, hp1, hx1, _, e101, ec1⟩ := hT.wr
    have hA1 := hT.1.2.2.1.1
    rw [sm_gF (show sK σ1 x = 15 + 1 from hx1.k0)]
    refine hx_bs ?_
    rw [e101]
    refine hx_bs ?_
    refine Hx.bd (cx_writeFraction hq hW1 hp1 hA1.2.2.2) (fun σ2 _ g => ?_)
    have hT2 := hT.tx g (Nat.zero_le _)
    exact (fin σ1 σ2 _ hO hT2 hlF).mo (fun σ' v q => ⟨fun _ => q, fun z => by omega, fun z => by omega⟩)
  · have hb1 : b = 1 := by omega
    rw [show gF σ 15 16 x = some (x + 18) from hx.gf 15 16 0 18 (by decide) (by decide)]
    refine hx_bs ?_
    rw [sm_gF (show sK σ x = 15 + 1 from hx.k0)]
    refine hx_bs ?_
    rw [hx.ck 18 10 (by decide)]
    refine hx_bs ?_
    refine Hx.bd (cx_lengthAhead hp hx hA.2.2.2 hd) (fun σ1 v g => ?_)
    obtain ⟨rfl, hF1, hC1⟩ := g
    have hx1 := hx.kW hF1
    rw [show gF σ1 15 16 x = some (x + 18) from hx1.gf 15 16 0 18 (by decide) (by decide)]
    refine hx_bs ?_
    rw [hx1.ck 18 10 (by decide)]
    refine hx_bs ?_
    refine Hx.bd (cx_lengthRepeating hF1.hp hx1 hC1 ⟨hbd.2.1, hbd.2.2.1⟩ (show 1 ≤ 100 ∧ 100 ≤ 1000 by omega)) (fun σ2 v g => ?_)
    obtain ⟨rfl, hF2⟩ := g
    have hF12 : cW x (s2 (x + 41) (x + 37)) 0 0 σ σ2 := (hF1.mo (fun r _ hr => Or.inl hr) (Nat.le_refl _) (Nat.le_refl _)).tr0 hF2 (fun r _ hr => Or.inr hr)
    obtain ⟨hK, hO⟩ := h.lowr hF12 (fun r hr => by simp only [s2] at hr; omega)
    have hx2 := hK.1.2.1
    have hfl : ahl s.2.2.2.1.2.2 ≤ 110 := by
      unfold ahl
      split <;> omega
    generalize hc : cory s.2.2.2.1.2.2 = c9 at *
    generalize hf : ahl s.2.2.2.1.2.2 = f at *
    have hup := rpf_up c9 100 1000 1 1 (by omega)
    have hbb := rpf_bd c9 100 1 1 (by omega)
    have hrp : ∀ a : Int, (if c9 = 1 then (0 : Int) else rpf c9 100 1 1) = a → (a ≠ -1 → rpt c9 = a) ∧ (a = -1 → rpt c9 = -1 ∨ 101 ≤ rpt c9) ∧ -1 ≤ a ∧ a ≤ 2000 := by
      intro a ha
      unfold rpt
      by_cases q : c9 = 1
      · rw [if_pos q] at ha ⊢
        exact ⟨fun _ => ha, fun z => by omega, by omega, by omega⟩
      · rw [if_neg q] at ha ⊢
        subst ha
        exact ⟨fun z => hup.1 z, fun z => by have := hup.2 z; omega, hbb.1, hbb.2⟩
    generalize ha : (if c9 = 1 then (0 : Int) else rpf c9 100 1 1) = a at *
    obtain ⟨r1, r2, r3, r4⟩ := hrp a rfl
    have hno : (a = -1 ∨ 100 < (f : Int) + a) → ¬ okD s.2.2.2.1 := by
      rintro q ⟨z1, z2⟩
      rw [hc] at z1 z2
      rw [hf] at z2
      by_cases qa : a = -1
      · rcases r2 qa with y | y <;> omega
      · have := r1 qa
        omega
    refine Hx.ce (iz_eq (by omega) (by omega) (by omega) (by omega)) (fun q => ?_) (fun q => ?_)
    · exact Hx.ret ⟨fun z => by omega, fun _ z => absurd z (hno (Or.inl q)), fun _ _ => ⟨rfl, ⟨o, hK⟩, hO.mo (by omega) (by omega)⟩⟩
    · have era := r1 q
      obtain ⟨a', rfl⟩ : ∃ a' : Nat, a = (a' : Int) := ⟨a.toNat, by omega⟩
      rw [show iz ((a' : Nat) : Int) = nI a' from (sm_iz a').symm, sm_add]
      refine Hx.ce (sm_le (by omega) (by omega)) (fun q2 => ?_) (fun q2 => ?_)
      · rw [show gF σ2 15 10 x = some (x + 9) from hx2.gf 15 10 0 9 (by decide) (by decide)]
        refine hx_bs ?_
        rw [sm_ckK hK.2.2.1.2.2.1.1]
        refine hx_bs ?_
        refine Hx.bd (ki_empt hK) (fun σ3 _ g => ?_)
        obtain ⟨hT, hO3⟩ := g
        rw [sm_ckK hT.1.1.2.1.k0]
        refine hx_bs ?_
        refine Hx.bd (cx_writeDecimals hT q2) (fun σ4 _ g => ?_)
        have ew : sgW s.2.2.2.1 ++ cod (dgx (s.2.2.2.1.2.1 / s.2.2.2.1.2.2)) ++ ((if 0 < f + a' then [46] else []) ++ dds s.2.2.2.1.2.2 f a' (f + a') 0 (s.2.2.2.1.2.1 % s.2.2.2.1.2.2)) = wrD s.2.2.2.1 := by
          unfold wrD
          rw [hc, hf, era]
          congr 1
          show _ = wdc s.2.2.2.1.2.2 f a' (s.2.2.2.1.2.1 % s.2.2.2.1.2.2)
          unfold wdc
          by_cases z : f + a' = 0
          · rw [if_pos z, if_neg (by omega), z, List.nil_append]
            exact if_neg (by omega)
          · rw [if_neg z, if_pos (by omega)]
        rw [ew] at g
        have hlD : (wrD s.2.2.2.1).length ≤ 300 := by
          have l1 := dgx_len hw36
          have l2 := dds_len s.2.2.2.1.2.2 f a' (f + a') 0 (s.2.2.2.1.2.1 % s.2.2.2.1.2.2)
          rw [← ew, List.length_append, List.length_append, List.length_append, cod_len]
          have : (if 0 < f + a' then [46] else ([] : List Nat)).length ≤ 1 := by split <;> simp
          omega
        exact (fin σ3 σ4 _ (hO.tr hO3) g hlD).mo (fun σ' v y => ⟨fun z => by omega, fun _ _ => y, fun _ z => absurd ⟨by rw [hc, era]; omega, by rw [hc, hf, era]; omega⟩ z⟩)
      · exact Hx.ret ⟨fun z => by omega, fun _ z => absurd z (hno (Or.inr (by omega))), fun _ _ => ⟨rfl, ⟨o, hK⟩, hO.mo (by omega) (by omega)⟩⟩
