/-! ===== calls of the one that was built: a text grows ===== -/
theorem sh_l0 (v : Int32) : v <<< (nI 0 &&& nI 31) = v := by
  apply i32_ext
  have e : (v <<< (nI 0 &&& nI 31)).toBitVec = v.toBitVec <<< 0 := rfl
  rw [e, BitVec.shiftLeft_zero]
theorem cWb {x a j : Nat} {v : Int32} {σ : St} (hp : HP (PX x) σ) (h2 : NL σ a) : cW x (s1 a) 0 0 σ (wA σ a j v) := by
  obtain ⟨ho, hP⟩ := hp
  have hPot : Pot (PX x) (wA σ a j v) = Pot (PX x) σ := Pot_same fun _ _ => rfl
  have e1 : sw (wA σ a j v) = sw σ := rfl
  have e2 : sc (wA σ a j v) = sc σ := rfl
  have ho2 : Own (wA σ a j v) := ho
  have hn : ∀ b z, Nt σ b z → Nt (wA σ a j v) b z := by
    rintro b z ⟨l, n, w, g1, g2, g3⟩
    refine ⟨l, n, w, g1, ⟨g2.1, fun i hi => ?_, g2.2.2⟩, g3⟩
    rw [sA_wA_b (fun e => h2 b g1.1 (g1.2.1.trans e))]
    exact g2.2.1 i hi
  refine ⟨⟨⟨ho, hP⟩, ho2, fun b hb => ?_⟩, ⟨Nat.le_refl _, fun _ _ => ⟨rfl, rfl, fun _ _ => rfl⟩⟩, fun b hb q1 q2 => ⟨fun _ => rfl, fun _ => rfl, fun i => ?_, fun _ => rfl, fun _ => rfl⟩, fun b hb => Or.inl ⟨ho.lt (a := b) (by show sK σ b ≠ 0; rw [show sK σ b = 8 from hb]; omega), rfl⟩, by omega, by omega⟩
  · obtain ⟨z, hz⟩ := hP b hb
    exact ⟨z, hn b z hz⟩
  · by_cases e : b = a
    · exact absurd e (q1 (by rw [e]; exact h2))
    · exact congrFun (sA_wA_b e) i
/-- room for one more -/
theorem sbd_room {x b : Nat} {wr : List Nat} {σ : St} (hp : HP (PX x) σ) (h : KWr σ b wr) (hl : wr.length ≤ 1000) : Hx (fJ5_ensureCapacityInternal_d00df σ b (nI (wr.length + 1))) (fun σ' _ => ∃ k c, cW x (s1 b) k c σ σ' ∧ KWr σ' b wr ∧ wr.length < sN σ' (sF σ' (fid 1 0) b) ∧ ((sF σ' (fid 1 0) b = sF σ (fid 1 0) b ∧ k = 0 ∧ c = 0) ∨ (sz σ ≤ sF σ' (fid 1 0) b ∧ k = 2 * wr.length + 2 ∧ c = 1 ∧ sN σ (sF σ (fid 1 0) b) = wr.length ∧ sN σ' (sF σ' (fid 1 0) b) = 2 * wr.length + 2))) := by
  obtain ⟨h1, h2, h3, ⟨h4, h5, h6, h7⟩, h8⟩ := id h
  have eA := sm_gF (ci := 1) (k := 0) h1
  have eC : gI σ 1 1 b = some (nI 0) := (sm_gI (ci := 1) h1).trans (congrArg some h2)
  rw [n_fJ5_ensureCapacityInternal_d00df, eA]
  refine hx_bs ?_
  rw [sm_aln h4 (by omega)]
  refine hx_bs ?_
  rw [eC]
  refine hx_bs ?_
  rw [sh_r0]
  refine hx_nm ?_
  generalize ha : sF σ (fid 1 0) b = a at *
  generalize hN : sN σ a = N at *
  by_cases c : wr.length < N
  · refine Hx.cs (fun _ => Hx.ret ⟨0, 0, cW.rf hp, h, by rw [ha, hN]; exact c, Or.inl ⟨ha, rfl, rfl⟩⟩) (fun q => absurd ?_ q)
    have e : nI (wr.length + 1) - nI N = iz (((wr.length + 1 : Nat) : Int) - (N : Int)) := by
      rw [sm_iz, sm_iz, iz_sub]
    rw [e, show nI 0 = iz 0 from rfl, iz_le (by omega) (by omega) (by omega) (by omega)]
    omega
  · have eN : N = wr.length := by omega
    subst eN
    rw [sm_sub (by omega), Nat.add_sub_cancel_left]
    refine Hx.ce (sm_le (by omega) (by omega)) (fun q => absurd q (by omega)) (fun _ => ?_)
    refine hx_bs ?_
    rw [sm_ckK h1]
    refine hx_bs ?_
    have eNC : fJ5_newCapacity_0f7a4 σ b (nI (wr.length + 1)) = some (σ, nI (2 * wr.length + 2)) := by
      apply hx_eq
      rw [n_fJ5_newCapacity_0f7a4, eA]
      refine hx_bs ?_
      rw [sm_aln h4 (by omega), hN]
      refine hx_bs ?_
      rw [eC]
      refine hx_bs ?_
      rw [sh_l0]
      refine hx_nm ?_
      rw [sm_sub (by omega), Nat.add_sub_cancel_left]
      refine hx_nm (hx_bs ?_)
      rw [sh_l0, sm_add, n_fJ8_newLength_cabcc, if_pos (show nI 1 < nI (wr.length + 2) by rw [sm_lt (by omega) (by omega)]; omega), sm_add]
      have e2 : wr.length + (wr.length + 2) = 2 * wr.length + 2 := by omega
      rw [e2]
      have e3 : (nm (nI (2 * wr.length + 2)) fun v1 => if v1 ≤ nI 0 then fJ8_newLength_cabcc_21 σ (nI wr.length) (nI 1) else if nI 2147483639 < v1 then fJ8_newLength_cabcc_21 σ (nI wr.length) (nI 1) else some (σ, v1)) = some (σ, nI (2 * wr.length + 2)) := by
        show (if nI (2 * wr.length + 2) ≤ nI 0 then fJ8_newLength_cabcc_21 σ (nI wr.length) (nI 1) else if nI 2147483639 < nI (2 * wr.length + 2) then fJ8_newLength_cabcc_21 σ (nI wr.length) (nI 1) else some (σ, nI (2 * wr.length + 2))) = _
        rw [if_neg (by rw [sm_le (by omega) (by omega)]; omega), if_neg (by rw [sm_lt (by omega) (by omega)]; omega)]
      rw [e3]
      refine hx_cs (Hx.ce (sm_eq (by omega) (by omega)) (fun q => absurd q (by omega)) (fun _ => ?_))
      rw [eC]
      refine hx_bs ?_
      rw [sh_r0]
      exact Hx.ret ⟨rfl, rfl⟩
    rw [eNC]
    refine hx_cs ?_
    rw [eC]
    refine hx_bs ?_
    rw [sh_l0]
    generalize hm : 2 * wr.length + 2 = m
    have haz : a < sz σ := hp.1.lt (by omega)
    have hbz : b < sz σ := hp.1.lt (by omega)
    have hka : sK (nw 101 m m σ) a = 101 := (if_neg (by omega)).trans h4
    have hna : sN (nw 101 m m σ) a = wr.length := (if_neg (by omega)).trans hN
    have hkz : sK (nw 101 m m σ) (sz σ) = 101 := if_pos rfl
    have hnz : sN (nw 101 m m σ) (sz σ) = m := if_pos rfl
    have hval : ∀ i, i < wr.length → sA (nw 101 m m σ) a i = nI wr[i]! ∧ wr[i]! < 128 := fun i hi => by
      have e := List.getElem?_eq_getElem hi
      have := h8 i _ e
      rw [getElem!_pos wr i hi]
      exact ⟨(if_neg (by omega)).trans this.1, this.2⟩
    have okc : ∀ c, c < 128 → okB (nI c) = true := by decide +kernel
    have e1 : acp (nw 101 m m σ) 1 a (nI 0) (sz σ) (nI 0) (nI wr.length) = some (wAs (nw 101 m m σ) (sz σ) (va_cpy (sA (nw 101 m m σ) a) (sA (nw 101 m m σ) (sz σ)) 0 0 wr.length)) := by
      have ez : ¬ nI 0 < 0 := by decide
      have en : ¬ nI wr.length < 0 := by
        show ¬ nI wr.length < nI 0
        rw [sm_lt (by omega) (by omega)]
        omega
      unfold acp
      rw [sm_clamp (show wr.length < 2147483648 by omega), sm_clamp (show 0 < 2147483648 by omega), if_pos]
      refine ⟨hka, hkz, ez, ez, en, by rw [hna]; omega, by rw [hnz]; omega, Or.inr (fun i hi => ?_)⟩
      rw [Nat.zero_add, (hval i hi).1]
      exact okc _ (hval i hi).2
    have eCp : fJ7_copyOf_9075b σ a (nI m) = some (wAs (nw 101 m m σ) (sz σ) (va_cpy (sA (nw 101 m m σ) a) (sA (nw 101 m m σ) (sz σ)) 0 0 wr.length), sz σ) := by
      apply hx_eq
      rw [n_fJ7_copyOf_9075b, sm_aln h4 (by omega), hN]
      refine hx_bs (Hx.ce (sm_eq (by omega) (by omega)) (fun q => absurd q (by omega)) (fun _ => ?_))
      rw [nwA_k (ti := 1) (m := m) (by omega)]
      refine hx_bs (hx_nm ?_)
      rw [sm_aln hka (by omega), hna]
      refine hx_bs ?_
      rw [if_neg (show ¬ nI m < nI wr.length by rw [sm_lt (by omega) (by omega)]; omega), e1]
      exact hx_bs (Hx.ret ⟨rfl, rfl⟩)
    rw [eCp]
    refine hx_cs ?_
    have hzz : sz (wAs (nw 101 m m σ) (sz σ) (va_cpy (sA (nw 101 m m σ) a) (sA (nw 101 m m σ) (sz σ)) 0 0 wr.length)) = sz σ + 1 := rfl
    have hF : cW x s0 m 1 σ (wAs (nw 101 m m σ) (sz σ) (va_cpy (sA (nw 101 m m σ) a) (sA (nw 101 m m σ) (sz σ)) 0 0 wr.length)) := by
      refine cW.alloc hp (Nat.le_succ _) (fun b hb => ?_) (fun b hb => ?_) (fun c ha h8 => ?_) (Nat.le_refl _) (Nat.le_refl _)
      · have e : b ≠ sz σ := by omega
        exact ⟨if_neg e, if_neg e, fun _ => if_neg e, fun _ => if_neg e, fun _ => (if_neg e).trans (if_neg e), fun _ => if_neg e, fun _ => if_neg e⟩
      · rw [hzz] at hb
        exact (if_neg (by omega)).trans (hp.1.1.2 b (by omega))
      · exfalso
        have h8' : (if c = sz σ then 101 else sK σ c) = 8 := h8
        split at h8'
        · omega
        · rw [hp.1.1.2 c (by omega)] at h8'; omega
    have hvz : ∀ j, j < wr.length → sA (wAs (nw 101 m m σ) (sz σ) (va_cpy (sA (nw 101 m m σ) a) (sA (nw 101 m m σ) (sz σ)) 0 0 wr.length)) (sz σ) j = sA (nw 101 m m σ) a j := fun j hj => by
      show (if sz σ = sz σ then va_cpy (sA (nw 101 m m σ) a) (sA (nw 101 m m σ) (sz σ)) 0 0 wr.length j else sA (nw 101 m m σ) (sz σ) j) = _
      rw [if_pos rfl]
      unfold va_cpy
      rw [if_pos (by omega)]
      show sA (nw 101 m m σ) a (0 + (j - 0)) = _
      rw [Nat.zero_add, Nat.sub_zero]
    have hkb : sK (wAs (nw 101 m m σ) (sz σ) (va_cpy (sA (nw 101 m m σ) a) (sA (nw 101 m m σ) (sz σ)) 0 0 wr.length)) b = 2 := (if_neg (by omega)).trans h1
    have hib : ∀ f, sI (wAs (nw 101 m m σ) (sz σ) (va_cpy (sA (nw 101 m m σ) a) (sA (nw 101 m m σ) (sz σ)) 0 0 wr.length)) f b = sI σ f b := fun f => if_neg (by omega)
    have hkz2 : sK (wAs (nw 101 m m σ) (sz σ) (va_cpy (sA (nw 101 m m σ) a) (sA (nw 101 m m σ) (sz σ)) 0 0 wr.length)) (sz σ) = 101 := if_pos rfl
    have hnz2 : sN (wAs (nw 101 m m σ) (sz σ) (va_cpy (sA (nw 101 m m σ) a) (sA (nw 101 m m σ) (sz σ)) 0 0 wr.length)) (sz σ) = m := if_pos rfl
    have hsz : sz (wAs (nw 101 m m σ) (sz σ) (va_cpy (sA (nw 101 m m σ) a) (sA (nw 101 m m σ) (sz σ)) 0 0 wr.length)) = sz σ + 1 := rfl
    generalize wAs (nw 101 m m σ) (sz σ) (va_cpy (sA (nw 101 m m σ) a) (sA (nw 101 m m σ) (sz σ)) 0 0 wr.length) = σ3 at *
    rw [sm_pF (ci := 1) hkb]
    refine hx_bs (Hx.ret ⟨m, 1, (hF.mo (S' := s1 b) (fun r _ h => h.elim) (Nat.le_refl _) (Nat.le_refl _)).wf (Or.inr ⟨by decide, rfl⟩) (by omega) (by omega), ?_, ?_, Or.inr ⟨?_, by omega, rfl, rfl, ?_⟩⟩)
    · have eF : sF (wF σ3 (fid 1 0) b (sz σ)) (fid 1 0) b = sz σ := if_pos ⟨rfl, rfl⟩
      refine ⟨hkb, (hib _).trans h2, (hib _).trans h3, ?_, fun i c hi => ?_⟩
      · rw [eF]
        exact ⟨hkz2, by show wr.length ≤ sN σ3 (sz σ); omega, by show 16 ≤ sN σ3 (sz σ); omega, by show sN σ3 (sz σ) ≤ 3000; omega⟩
      · rw [eF]
        have hil := (List.getElem?_eq_some_iff.mp hi).1
        have hv := h8 i c hi
        refine ⟨?_, hv.2⟩
        show sA σ3 (sz σ) i = nI c
        rw [hvz i hil]
        exact (if_neg (by omega)).trans hv.1
    · rw [show sF (wF σ3 (fid 1 0) b (sz σ)) (fid 1 0) b = sz σ from if_pos ⟨rfl, rfl⟩]
      show wr.length < sN σ3 (sz σ)
      omega
    · rw [show sF (wF σ3 (fid 1 0) b (sz σ)) (fid 1 0) b = sz σ from if_pos ⟨rfl, rfl⟩]
      exact Nat.le_refl _
    · rw [show sF (wF σ3 (fid 1 0) b (sz σ)) (fid 1 0) b = sz σ from if_pos ⟨rfl, rfl⟩]
      show sN σ3 (sz σ) = m
      exact hnz2
/-- the cells of a text -/
def sTx (σ : St) (b r : Nat) : Prop := r = b ∨ r = sF σ (fid 1 0) b
theorem sbd_append {x b c : Nat} {wr : List Nat} {σ : St} (hp : HP (PX x) σ) (h : KWr σ b wr) (hl : wr.length ≤ 1000) (hc : c < 128) : Hx (fJ4_append_cf468 σ b (nI c)) (fun σ' _ => ∃ k d, cW x (sTx σ b) k d σ σ' ∧ KWr σ' b (wr ++ [c]) ∧ ((sF σ' (fid 1 0) b = sF σ (fid 1 0) b ∧ k = 0 ∧ d = 0) ∨ (sz σ ≤ sF σ' (fid 1 0) b ∧ k = 2 * wr.length + 2 ∧ d = 1 ∧ sN σ (sF σ (fid 1 0) b) = wr.length ∧ sN σ' (sF σ' (fid 1 0) b) = 2 * wr.length + 2))) := by
  obtain ⟨h1, h2, h3, _⟩ := id h
  rw [n_fJ4_append_cf468, sm_ckK h1]
  refine hx_bs ?_
  rw [n_fJ5_append_3fe6f]
  have main : Hx (Option.bind (gI σ 1 3 b) fun v1 => Option.bind (ckK σ 2 b) fun _ => cb (fJ5_ensureCapacityInternal_d00df σ b (v1 + (nI 1))) fun σ2 _ => Option.bind (ckK σ2 2 b) fun _ => cb (fJ5_isLatin1_aae02 σ2 b) fun σ5 v6 => if v6 = (nI 0) then ((fJ5_append_3fe6f_45 σ5 b (nI c))) else ((cb (fJ1_canEncode_fc78d σ5 (nI c)) fun σ9 v10 => if v10 = (nI 0) then ((fJ5_append_3fe6f_45 σ9 b (nI c))) else ((Option.bind (gF σ9 1 0 b) fun v12 => Option.bind (gI σ9 1 3 b) fun v13 => Option.bind (pI σ9 1 3 b (v13 + (nI 1))) fun σ14 => Option.bind (stB σ14 1 v12 v13 (((Int32.toInt8 (nI c))).toInt32)) fun σ15 => some (σ15, b)))))) (fun σ' _ => ∃ k d, cW x (sTx σ b) k d σ σ' ∧ KWr σ' b (wr ++ [c]) ∧ ((sF σ' (fid 1 0) b = sF σ (fid 1 0) b ∧ k = 0 ∧ d = 0) ∨ (sz σ ≤ sF σ' (fid 1 0) b ∧ k = 2 * wr.length + 2 ∧ d = 1 ∧ sN σ (sF σ (fid 1 0) b) = wr.length ∧ sN σ' (sF σ' (fid 1 0) b) = 2 * wr.length + 2))) := by
    rw [(sm_gI (ci := 1) h1).trans (congrArg some h3)]
    refine hx_bs ?_
    rw [sm_ckK h1]
    refine hx_bs ?_
    rw [sm_add]
    refine Hx.bd (sbd_room hp h hl) (fun σ2 _ g => ?_)
    obtain ⟨k, d, hF, hW, hlt, hd⟩ := g
    obtain ⟨g1, g2, g3, ⟨g4, g5, g6, g7⟩, g8⟩ := id hW
    rw [sm_ckK g1]
    refine hx_bs ?_
    have eL : fJ5_isLatin1_aae02 σ2 b = some (σ2, nI 1) := by
      apply hx_eq
      rw [n_fJ5_isLatin1_aae02, if_neg (by decide), (sm_gI (ci := 1) g1).trans (congrArg some g2)]
      refine hx_bs ?_
      rw [if_pos rfl]
      exact Hx.ret ⟨rfl, rfl⟩
    rw [eL]
    refine hx_cs (Hx.cs (fun q => absurd q (by decide)) (fun _ => ?_))
    have eC : fJ1_canEncode_fc78d σ2 (nI c) = some (σ2, nI 1) := by
      rw [n_fJ1_canEncode_fc78d, if_neg (by rw [sm_lt (by omega) (by omega)]; omega)]
    rw [eC]
    refine hx_cs (Hx.cs (fun q => absurd q (by decide)) (fun _ => ?_))
    rw [sm_gF (ci := 1) g1]
    refine hx_bs ?_
    rw [(sm_gI (ci := 1) g1).trans (congrArg some g3)]
    refine hx_bs ?_
    rw [sm_add, sm_pI (ci := 1) g1]
    refine hx_bs ?_
    generalize ha : sF σ2 (fid 1 0) b = a at *
    have hcc := (ch_c c hc).2.1
    have eS : stB (wI σ2 (fid 1 3) b (nI (wr.length + 1))) 1 a (nI wr.length) (Int32.toInt8 (nI c)).toInt32 = some (wA (wI σ2 (fid 1 3) b (nI (wr.length + 1))) a wr.length (nI c)) := by
      unfold stB
      rw [hcc, if_pos ⟨g4, sm_inb hlt (by omega), hcc⟩, sm_clamp (by omega)]
    rw [eS]
    have f1 := cWi (f := fid 1 3) (v := nI (wr.length + 1)) hF.hp (show sK σ2 b ≠ 8 by omega) (show sK σ2 b ≠ 100 by omega)
    have f2 := cWb (j := wr.length) (v := nI c) f1.hp (a := a) (f1.hp.1.nl (by show sK σ2 a ≠ 100; omega))
    have hS : ∀ r, r < sz σ → r = a → sTx σ b r := fun r hr e => by
      rcases hd with ⟨q, _⟩ | ⟨q, _⟩
      · exact Or.inr (e.trans q)
      · omega
    refine hx_bs (Hx.ret ⟨k, d, ((hF.mo (S' := sTx σ b) (fun r _ hr => Or.inl hr) (Nat.le_refl _) (Nat.le_refl _)).tr0 f1 (fun r _ hr => Or.inl hr)).tr0 f2 (fun r hr e => hS r hr e), ?_, ?_⟩)
    · refine ⟨g1, (show sI (wI σ2 (fid 1 3) b (nI (wr.length + 1))) (fid 1 1) b = nI 0 from (sI_wI_f (by decide)).trans g2), ?_, ?_, fun i e hi => ?_⟩
      · show sI (wI σ2 (fid 1 3) b (nI (wr.length + 1))) (fid 1 3) b = _
        rw [sI_wI_eq, List.length_append, List.length_singleton]
      · show (sK σ2 (sF σ2 (fid 1 0) b) = 101 ∧ (wr ++ [c]).length ≤ sN σ2 (sF σ2 (fid 1 0) b) ∧ 16 ≤ sN σ2 (sF σ2 (fid 1 0) b) ∧ sN σ2 (sF σ2 (fid 1 0) b) ≤ 3000)
        rw [ha, List.length_append, List.length_singleton]
        exact ⟨g4, by omega, g6, g7⟩
      · show sA (wA σ2 a wr.length (nI c)) (sF σ2 (fid 1 0) b) i = nI e ∧ e < 128
        rw [ha]
        by_cases c2 : i < wr.length
        · rw [List.getElem?_append_left c2] at hi
          rw [sA_wA_j (by omega)]
          exact g8 i e hi
        · rw [List.getElem?_append_right (by omega)] at hi
          have hl2 := (List.getElem?_eq_some_iff.mp hi).1
          rw [List.length_singleton] at hl2
          have e2 : i = wr.length := by omega
          subst e2
          rw [Nat.sub_self] at hi
          have hi : some c = some e := hi
          cases hi
          exact ⟨sA_wA_eq, hc⟩
    · show (sF σ2 (fid 1 0) b = _ ∧ _) ∨ (sz σ ≤ sF σ2 (fid 1 0) b ∧ _ ∧ _ ∧ _ ∧ sN σ2 (sF σ2 (fid 1 0) b) = _)
      rw [ha]
      exact hd
  exact Hx.bd main (fun σ' _ g => Hx.ret g)
