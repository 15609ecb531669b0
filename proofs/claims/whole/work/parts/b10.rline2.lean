/-! ===== the reference reads what is behind an operand ===== -/
theorem TkN.keep {m : Nat} {t : List Nat} {k : Tok} {F A : List Nat} {V : Nat → Prop} {σ σ' : St} (h : TkN σ m t k) (hR : rfM m F A V σ σ') (hF : 10 ∉ F ∧ 11 ∉ F ∧ 12 ∉ F ∧ 13 ∉ F ∧ 14 ∉ F ∧ 15 ∉ F ∧ 16 ∉ F) : TkN σ' m t k := by
  obtain ⟨f1, f2, f3, f4, f5, f6, f7⟩ := hF
  obtain ⟨z1, z2, z3, z4, z5, z6⟩ := h
  exact ⟨z1.keep hR f1, z2.keep hR f2, fun q => (z3 q).keep hR f3, fun q => (z4 q).keep hR f3, fun q => (z5 q).keep hR f4, fun q => by
    obtain ⟨o1, o2, o3⟩ := z6 q
    exact ⟨o1.keep hR f5, o2.keep hR f6, o3.keep hR f7⟩⟩
theorem sgo_5 (b : Nat) : sgo b ≤ 5 := by unfold sgo; repeat' split
                                          all_goals omega
theorem ry_signOf {σ : St} {m b : Nat} (hb : b < 256) : fX12_signOf σ m (nI b) = some (σ, nI (sgo b)) := by
  apply hx_eq
  rw [n_fX12_signOf]
  unfold sgo
  refine Hx.ce (sm_eq (by omega) (by omega)) (fun c => ?_) (fun c => ?_)
  · rw [if_pos c]; exact Hx.ret ⟨rfl, rfl⟩
  rw [if_neg c]
  refine Hx.ce (sm_eq (by omega) (by omega)) (fun c => ?_) (fun c => ?_)
  · rw [if_pos c]; exact Hx.ret ⟨rfl, rfl⟩
  rw [if_neg c]
  refine Hx.ce (sm_eq (by omega) (by omega)) (fun c => ?_) (fun c => ?_)
  · rw [if_pos c]; exact Hx.ret ⟨rfl, rfl⟩
  rw [if_neg c]
  refine Hx.ce (sm_eq (by omega) (by omega)) (fun c => ?_) (fun c => ?_)
  · rw [if_pos c]; exact Hx.ret ⟨rfl, rfl⟩
  rw [if_neg c]
  refine Hx.ce (sm_eq (by omega) (by omega)) (fun c => ?_) (fun c => ?_)
  · rw [if_pos c]; exact Hx.ret ⟨rfl, rfl⟩
  rw [if_neg c]
  exact Hx.ret ⟨rfl, rfl⟩
theorem ry_182 {σ σ0 : St} {m vm k0 v0 n i b : Nat} {t ps : List Nat} {bb : Bool} {S : List Wt} {L : List It} (hb : b < 256) (hbb : bb = true ↔ b = 33 ∨ b = 41) (h12 : Fi σ m 12 (nI b)) (pr : PrS σ m t ps vm k0 v0 n S L i) (hR : RY m k0 v0 σ0 σ) : Hx (fX12_readsBehind_182 σ m) (fun σ' v => StP m t ps k0 v0 n σ0 σ' v i (.inl (bb, S, L, i + 1))) := by
  have hm := pr.1.1
  have fin : ∀ y, y = (if bb = true then 1 else 0) → Hx (fX12_readsBehind_205 σ m (nI y)) (fun σ' v => StP m t ps k0 v0 n σ0 σ' v i (.inl (bb, S, L, i + 1))) := by
    intro y hy
    rw [n_fX12_readsBehind_205, rf_ck hm]
    refine hx_bs ?_
    exact pr.go (b := bb) hR (fun σ1 g1 g2 => Hx.ret ⟨g1, by rw [hy], by show i < i + 1; omega, vm, g2⟩)
  have f1 : (b = 33 ∨ b = 41) → Hx (fX12_readsBehind_200 σ m) (fun σ' v => StP m t ps k0 v0 n σ0 σ' v i (.inl (bb, S, L, i + 1))) := by
    intro q
    rw [n_fX12_readsBehind_200]
    exact fin 1 (by rw [if_pos (hbb.mpr q)])
  rw [n_fX12_readsBehind_182, fi_g hm h12]
  refine hx_bs (Hx.ce (sm_eq (by omega) (by omega)) (fun c => f1 (Or.inl c)) (fun c => ?_))
  refine hx_bs (Hx.ce (sm_eq (by omega) (by omega)) (fun c2 => f1 (Or.inr c2)) (fun c2 => ?_))
  refine fin 0 ?_
  rw [if_neg]
  intro q
  rcases hbb.mp q with q | q
  · exact c q
  · exact c2 q
theorem ry_behind {σ : St} {m vm k0 v0 n i : Nat} {t ps : List Nat} {S : List Wt} {L : List It} (hn : Ntk t n) (hk0 : k0 + 205 ≤ 12000) (h0 : (tk t i).1 ≠ 0) (hs : SyR σ m t ps vm k0 v0 n (true, S, L, i)) : Hx (fX12_readsBehind σ m) (fun σ' v => StP m t ps k0 v0 n σ σ' v i (syB t S L i)) := by
  obtain ⟨⟨hm, ht, hp, hT, h13, h5⟩, hY, b1, b2, b3, b4, b5⟩ := hs
  have hY : Yd σ m vm k0 S L := hY
  have hT : TkN σ m t (tk t i) := hT
  have h13 : gon (tk t i) → Fi σ m 13 (nI (tkp t (i + 1))) := h13
  have b1 : i < n := b1
  have b2 : S.length + L.length ≤ i := b2
  have b3 : ∀ w ∈ S, w.2.2.2 ≤ i := b3
  have b5 : vm ≤ v0 + i := b5
  have hT0 := hT
  obtain ⟨t1, t2, t3, t4, t5, t6⟩ := hT
  have hl := ht.1.2
  have hnl := hn.le
  obtain ⟨_, _, _, hwd, hk94, hk3, hpl⟩ := tk_b (t := t) i
  have y205 : S.length ≤ 205 := hY.1.2.1
  have le := opn_le S
  rw [n_fX12_readsBehind, fi_g hm t1]
  refine hx_bs (Hx.ce tkR_1 (fun c => ?_) (fun c => ?_))
  · have h12 := t4 c
    have hg : gon (tk t i) := ⟨h0, by omega⟩
    have hi1 := hn.nx b1 hg
    have x13 := h13 hg
    obtain ⟨b, hb⟩ : ∃ b, b = (tk t i).1 := ⟨_, rfl⟩
    rw [← hb] at h12 c hk94 h0
    -- after a step that leaves the reader's token alone
    have mk : ∀ (σ1 : St) (S1 : List Wt) (L1 : List It), Yr m k0 σ σ1 → Yd σ1 m vm k0 S1 L1 → S1.length + L1.length ≤ i + 1 → (∀ w ∈ S1, w.2.2.2 ≤ i + 1) → PrS σ1 m t ps vm k0 v0 n S1 L1 i := fun σ1 S1 L1 q y e1 e2 => ⟨⟨q.1.ms hm, q.tx ht, q.pf hp, q.fi x13 (by omega), q.fi h5 (by omega)⟩, y, hi1, e1, e2, b4, by omega⟩
    have er : ∀ (σ1 : St) (e : Se), e = .inr (.inl i) → Yr m k0 σ σ1 → StP m t ps k0 v0 n σ σ1 (iz (-1)) i e := by
      rintro σ1 e rfl q
      exact ⟨q.ry, rfl, q.1.ms hm, hT0.keep q.1 (by decide)⟩
    rw [fi_g hm h12]
    refine hx_bs ?_
    refine Hx.ce (sm_eq (by omega) (by omega)) (fun c1 => ?_) (fun c1 => ?_)
    · have esy : syB t S L i = .inl (true, S, L ++ [(7, 0, 0, (tk t i).2.2.1, q0)], i + 1) := by
        unfold syB
        rw [← hb, if_pos c1]
      rw [esy, fi_g hm t2]
      refine hx_bs ?_
      rw [rf_ck hm]
      refine hx_bs ?_
      obtain ⟨⟨y1, y2, y3⟩, ⟨y4, y5, y6⟩, y7⟩ := hY
      refine Hx.bd (ry_makes (it := (7, 0, 0, (tk t i).2.2.1, q0)) hm y7 y6 (by omega) ⟨rfl, rfl, rfl⟩ ⟨by omega, by show 0 < _; omega, by omega, by omega⟩ (fun q => absurd (show (7 : Nat) = 30 from q) (by decide)) (fun _ => rfl)) (fun σ1 _ h => ?_)
      obtain ⟨r1, r2, r3, r4⟩ := h
      have q1 : Yr m k0 σ σ1 := ⟨r1.mo ⟨by decide, by decide⟩ (fun _ q => q), r2⟩
      refine ry_182 (b := b) (by omega) ⟨fun _ => Or.inl c1, fun _ => rfl⟩ (q1.fi h12 (by omega)) (mk σ1 S _ q1 ⟨⟨y1.keep r1 (by decide), y2, ?_⟩, ⟨y4.keep r1 (by decide), y5.keep r1 (by decide), r3⟩, r4⟩ ?_ (fun w hw => by have := b3 w hw; omega)) q1.ry
      · rw [List.length_append, List.length_singleton]; omega
      · rw [List.length_append, List.length_singleton]; omega
    refine hx_bs ?_
    refine Hx.ce (sm_eq (by omega) (by omega)) (fun c2 => ?_) (fun c2 => ?_)
    · have esy : syB t S L i = syC i (stl 1 S L) := by
        unfold syB
        rw [← hb, if_neg c1, if_pos c2]
      rw [esy, rf_ck hm]
      refine hx_bs ?_
      refine Hx.bd (ry_closes hm hY) (fun σ1 v h => ?_)
      obtain ⟨q1, q2⟩ := h
      have sl := stl_len (r := 1) S L
      have sm := fun w => stl_mem (r := 1) (S := S) (L := L) (w := w)
      cases e : stl 1 S L with
      | mk S1 L1 =>
      rw [e] at q2 sl sm
      have sl : S1.length + L1.length = S.length + L.length := sl
      have sm : ∀ w, w ∈ S1 → w ∈ S := sm
      have q2 : (S1 = [] ∧ v = nI 0) ∨ ∃ w S', S1 = w :: S' ∧ v = nI 1 ∧ Yd σ1 m vm k0 S' (L1 ++ cli w) := q2
      rcases q2 with ⟨rfl, rfl⟩ | ⟨w, S', rfl, rfl, y⟩
      · exact Hx.ce rfl (fun _ => Hx.ret (er _ _ rfl q1)) (fun q => absurd rfl q)
      · refine Hx.ce (sm_eq (by omega) (by omega)) (fun q => absurd q (by omega)) (fun _ => ?_)
        rw [List.length_cons] at sl
        have lc : (cli w).length ≤ 1 := by unfold cli; split <;> simp
        refine ry_182 (b := b) (bb := true) (by omega) ⟨fun _ => Or.inr c2, fun _ => rfl⟩ (q1.fi h12 (by omega)) (mk σ1 S' (L1 ++ cli w) q1 y ?_ (fun u hu => by have := b3 u (sm u (List.mem_cons_of_mem _ hu)); omega)) q1.ry
        rw [List.length_append]; omega
    refine hx_bs ?_
    refine Hx.ce (sm_eq (by omega) (by omega)) (fun c3 => ?_) (fun c3 => ?_)
    · have esy : syB t S L i = (if opn S = 12 then .inr (.inl i) else .inl (false, (6, (tk t i).2.2.1, none, 1) :: S, L, i + 1)) := by
        unfold syB
        rw [← hb, if_neg c1, if_neg c2, if_pos c3]
      rw [esy, fi_g hm hY.2.1.2.1]
      refine hx_bs (Hx.ce (sm_eq (by omega) (by omega)) (fun c4 => ?_) (fun c4 => ?_))
      · rw [if_pos c4]
        exact Hx.ret (er _ _ rfl Yr.rf)
      · rw [if_neg c4, rf_ck hm]
        refine hx_bs ?_
        refine Hx.bd (ry_waitsFor (o := none) hm hY ⟨by omega, by omega⟩ t2 ⟨⟨by show 1 ≤ 6; omega, Or.inl (by show 6 ≤ 8; omega)⟩, by show (tk t i).2.2.1 ≤ 200; omega, fun u hu => (by cases hu), by show 1 ≤ 200; omega⟩) (fun σ1 _ h => ?_)
        obtain ⟨q1, q2⟩ := h
        refine ry_182 (b := b) (by omega) ⟨fun q => (by cases q), fun q => by omega⟩ (q1.fi h12 (by omega)) (mk σ1 _ L q1 q2 (by rw [List.length_cons]; omega) (fun w hw => ?_)) q1.ry
        rcases List.mem_cons.mp hw with rfl | hw
        · show 1 ≤ i + 1; omega
        · have := b3 w hw; omega
    refine hx_bs ?_
    refine Hx.ce (sm_eq (by omega) (by omega)) (fun c4 => ?_) (fun c4 => ?_)
    · have esy : syB t S L i = syK i (stl 1 S L) := by
        unfold syB
        rw [← hb, if_neg c1, if_neg c2, if_neg c3, if_pos c4]
      rw [esy, rf_ck hm]
      refine hx_bs ?_
      refine Hx.bd (ry_settles (show 1 ≤ 3 by omega) hm hY) (fun σ1 _ h => ?_)
      obtain ⟨q1, q2⟩ := h
      have hm1 := q1.1.ms hm
      have sl := stl_len (r := 1) S L
      have sm := fun w => stl_mem (r := 1) (S := S) (L := L) (w := w)
      cases e : stl 1 S L with
      | mk S1 L1 =>
      rw [e] at q2 sl sm
      have sl : S1.length + L1.length = S.length + L.length := sl
      have sm : ∀ w, w ∈ S1 → w ∈ S := sm
      have q2 : Yd σ1 m vm k0 S1 L1 := q2
      obtain ⟨⟨y1, y2, y3⟩, ⟨y4, y5, y6⟩, y7⟩ := q2
      rw [fi_g hm1 y4]
      refine hx_bs (Hx.ce (sm_eq (by omega) (by omega)) (fun d => ?_) (fun d => ?_))
      · obtain rfl := List.length_eq_zero_iff.mp d
        exact Hx.ret (er _ _ rfl q1)
      cases S1 with
      | nil => exact absurd rfl d
      | cons w S' =>
        obtain ⟨⟨k1, k2, k3, k4⟩, ⟨o1, o2, o3, o4⟩, y1'⟩ := y1
        rw [List.length_cons] at y2 y3 sl y4
        have hwi := b3 w (sm w List.mem_cons_self)
        rw [rf_waitsWord hm1]
        refine hx_bs ?_
        try rw [fi_g hm1 y4]
        refine hx_bs ?_
        try rw [List.length_cons]
        rw [sm_sub (by omega), Nat.add_sub_cancel, ld_waitsWord hm1 (by omega), k3]
        refine hx_bs (Hx.ce (wwn_n o3) (fun d2 => ?_) (fun d2 => ?_))
        · refine Hx.ret (er _ _ ?_ q1)
          show (if w.2.2.1 = none then (.inr (.inl i) : Se) else _) = _
          rw [if_pos d2]
        · have esk : syK i (w :: S', L1) = .inl (false, (w.1, w.2.1, w.2.2.1, w.2.2.2 + 1) :: S', L1, i + 1) := by
            show (if w.2.2.1 = none then (.inr (.inl i) : Se) else _) = _
            rw [if_neg d2]
          rw [esk, rf_waitsMany hm1]
          refine hx_bs ?_
          refine hx_bs ?_
          try rw [List.length_cons]
          try rw [sm_sub (by omega), Nat.add_sub_cancel]
          refine hx_nm ?_
          rw [ld_waitsMany hm1 (by omega), k4]
          refine hx_bs ?_
          rw [sm_add, st_waitsMany hm1 (by omega)]
          refine hx_bs ?_
          have r3 : rfM m [] [16] nV σ1 (wA σ1 (m + 16) S'.length (nI (w.2.2.2 + 1))) := rfM.wA (by simp) (by omega)
          have r3' : Yr m k0 σ1 (wA σ1 (m + 16) S'.length (nI (w.2.2.2 + 1))) := ⟨r3.mo ⟨fun _ q => (by cases q), by decide⟩ (fun _ q => q), Ol.of r3 (by decide)⟩
          have q3 := q1.tr r3'
          refine ry_182 (b := b) (bb := false) (by omega) ⟨fun q => (by cases q), fun q => by omega⟩ (q3.fi h12 (by omega)) (mk _ ((w.1, w.2.1, w.2.2.1, w.2.2.2 + 1) :: S') L1 q3 ⟨⟨⟨⟨?_, ?_, ?_, sA_wA_eq⟩, ⟨o1, o2, o3, by show w.2.2.2 + 1 ≤ 200; omega⟩, y1'.co (fun j hj a _ _ => sA_wA_j (by omega))⟩, by rw [List.length_cons]; omega, by rw [List.length_cons]; omega⟩, ⟨by rw [List.length_cons]; exact y4, y5, y6⟩, y7.keepM r3 (by decide) (fun _ _ _ q => q)⟩ (by rw [List.length_cons]; omega) (fun u hu => ?_)) q3.ry
          · rw [sA_wA_b (by omega)]; exact k1
          · rw [sA_wA_b (by omega)]; exact k2
          · rw [sA_wA_b (by omega)]; exact k3
          · rcases List.mem_cons.mp hu with rfl | hu
            · show w.2.2.2 + 1 ≤ i + 1; omega
            · have := b3 u (sm u (List.mem_cons_of_mem _ hu)); omega
    refine hx_bs ?_
    rw [rf_ck hm]
    refine hx_bs ?_
    rw [ry_signOf (by omega)]
    have so := sgo_5 b
    refine hx_cs (Hx.ce (sm_le (by omega) (by omega)) (fun c5 => ?_) (fun c5 => ?_))
    · refine Hx.ret (er _ _ ?_ Yr.rf)
      unfold syB
      rw [← hb, if_neg c1, if_neg c2, if_neg c3, if_neg c4, if_neg (by omega), if_neg h0]
    · have esy : syB t S L i = .inl (false, (sgo b, (tk t i).2.2.1, none, 1) :: (stl (rk (sgo b)) S L).1, (stl (rk (sgo b)) S L).2, i + 1) := by
        unfold syB
        rw [← hb, if_neg c1, if_neg c2, if_neg c3, if_neg c4, if_pos (by omega)]
      have hrk := rk_b (sgo b)
      rw [esy, fi_g hm h12]
      refine hx_bs ?_
      rw [rf_ck hm]
      refine hx_bs ?_
      rw [ry_signOf (by omega)]
      refine hx_cs ?_
      rw [ry_rank (by omega) (by omega)]
      refine hx_cs ?_
      rw [rf_ck hm]
      refine hx_bs ?_
      refine Hx.bd (ry_settles (r := rk (sgo b)) (by omega) hm hY) (fun σ1 _ h => ?_)
      obtain ⟨q1, q2⟩ := h
      have hm1 := q1.1.ms hm
      have sl := stl_len (r := rk (sgo b)) S L
      have sm := fun w => stl_mem (r := rk (sgo b)) (S := S) (L := L) (w := w)
      generalize stl (rk (sgo b)) S L = p at *
      obtain ⟨S1, L1⟩ := p
      have sl : S1.length + L1.length = S.length + L.length := sl
      have sm : ∀ w, w ∈ S1 → w ∈ S := sm
      have q2 : Yd σ1 m vm k0 S1 L1 := q2
      rw [fi_g hm1 (q1.fi h12 (by omega))]
      refine hx_bs ?_
      rw [rf_ck hm1]
      refine hx_bs ?_
      rw [ry_signOf (by omega)]
      refine hx_cs ?_
      rw [rf_ck hm1]
      refine hx_bs ?_
      refine Hx.bd (ry_waitsFor (o := none) (a := sgo b) (p := (tk t i).2.2.1) hm1 q2 ⟨by omega, by omega⟩ (q1.fi t2 (by omega)) ⟨⟨by show 1 ≤ sgo b; omega, Or.inl (by show sgo b ≤ 8; omega)⟩, by show (tk t i).2.2.1 ≤ 200; omega, fun u hu => (by cases hu), by show 1 ≤ 200; omega⟩) (fun σ2 _ h => ?_)
      obtain ⟨u1, u2⟩ := h
      have q3 := q1.tr u1
      refine ry_182 (b := b) (bb := false) (by omega) ⟨fun q => (by cases q), fun q => by omega⟩ (q3.fi h12 (by omega)) (mk σ2 _ L1 q3 u2 (by show S1.length + 1 + L1.length ≤ i + 1; omega) (fun w hw => ?_)) q3.ry
      rcases List.mem_cons.mp hw with rfl | hw
      · show 1 ≤ i + 1; omega
      · have := b3 w (sm w hw); omega
  · have esy : syB t S L i = .inr (.inl i) := by
      have z : ∀ b, b = 1 ∨ b = 2 ∨ b = 3 → sgo b = 0 := by
        rintro b (rfl | rfl | rfl) <;> rfl
      have zs := z (tk t i).1 (by omega)
      unfold syB
      rw [if_neg (by omega), if_neg (by omega), if_neg (by omega), if_neg (by omega), if_neg (by omega), if_neg h0]
    rw [esy]
    exact Hx.ret ⟨RY.rf, rfl, hm, hT0⟩
