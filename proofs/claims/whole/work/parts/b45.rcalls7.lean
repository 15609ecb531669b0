/-! ===== the reference's calls: append ===== -/
def byL (v : Int32) (s : Nat) : List Nat := if byt v s = 0 then [] else [byt v s]
theorem lys_by (v : Int32) : lys v = byL v 24 ++ (byL v 16 ++ (byL v 8 ++ byL v 0)) := by
  have key : ∀ s (l : List Nat), ((s :: l).map (byt v)).filter (fun b => decide (b ≠ 0)) = byL v s ++ (l.map (byt v)).filter (fun b => decide (b ≠ 0)) := by
    intro s l
    unfold byL
    rw [List.map_cons, List.filter_cons]
    by_cases h : byt v s = 0
    · simp [h]
    · simp [h]
  unfold lys
  rw [key, key, key, key]
  simp
theorem lys_le (v : Int32) : (byL v 24).length + (byL v 16).length + (byL v 8).length + (byL v 0).length = (lys v).length := by
  rw [lys_by, List.length_append, List.length_append, List.length_append]
  omega
theorem rf_bytesIn_st {n c s : Nat} {σ : St} {v : Int32} (hs : s = 0 ∨ s = 8 ∨ s = 16 ∨ s = 24) : fX12_bytesIn_4 (n + 1) σ v (nI c) (nI s) = fX12_bytesIn_4 n σ v (nI (c + (byL v s).length)) (nI (s + 8)) := by
  have hb := byt_b v s
  rw [n_fX12_bytesIn_4, if_neg (by rw [sm_le (by omega) (by omega)]; omega), byt_r v hs]
  unfold byL
  by_cases h : byt v s = 0
  · rw [if_pos (by rw [h]), if_pos h, n_fX12_bytesIn_26]
    show fX12_bytesIn_4 n σ v (nI c + nI 0) (nI s + nI 8) = _
    rw [sm_add, sm_add]
    rfl
  · rw [if_neg (by rw [sm_eq (by omega) (by omega)]; exact h), if_neg h, n_fX12_bytesIn_26]
    show fX12_bytesIn_4 n σ v (nI c + nI 1) (nI s + nI 8) = _
    rw [sm_add, sm_add]
    rfl
theorem rf_bytesIn (σ : St) (v : Int32) : fX12_bytesIn σ v = some (σ, nI (lys v).length) := by
  rw [n_fX12_bytesIn, show FU = (FU - 5) + 1 + 1 + 1 + 1 + 1 by unfold FU; omega, rf_bytesIn_st (by omega), rf_bytesIn_st (by omega), rf_bytesIn_st (by omega), rf_bytesIn_st (by omega), n_fX12_bytesIn_4, if_pos (by rw [sm_le (by omega) (by omega)]; omega), ← lys_le]
  congr 3
  have a1 : (byL v (0 + 8)).length = (byL v 8).length := rfl
  have a2 : (byL v (0 + 8 + 8)).length = (byL v 16).length := rfl
  have a3 : (byL v (0 + 8 + 8 + 8)).length = (byL v 24).length := rfl
  omega
theorem rf_tb {σ : St} {m n s : Nat} {t : List Nat} {v : Int32} {P : St → Unit → Prop} (hs : s = 0 ∨ s = 8 ∨ s = 16 ∨ s = 24) (hm : MS σ m) (ht : RTx σ m t) (hl : t.length + (byL v s).length ≤ 200)
    (hK : ∀ σ', MS σ' m → rfM m [8] [5] nV σ σ' → RTx σ' m (t ++ byL v s) → Hx (fX12_takesBytes_3 n σ' m v (nI s + iz (-8))) P) : Hx (fX12_takesBytes_3 (n + 1) σ m v (nI s)) P := by
  have hb := byt_b v s
  rw [n_fX12_takesBytes_3]
  refine Hx.ce (sm_lt (by omega) (by omega)) (fun z => absurd z (by omega)) (fun _ => ?_)
  rw [byt_r v hs]
  refine hx_nm ?_
  unfold byL at hl hK
  refine Hx.ce (sm_eq (by omega) (by omega)) (fun c => ?_) (fun c => ?_)
  · rw [if_pos c] at hl hK
    rw [n_fX12_takesBytes_42]
    refine hx_nm ?_
    exact hK σ hm rfM.rf (by rw [List.append_nil]; exact ht)
  · rw [if_neg c] at hl hK
    have hl : t.length + 1 ≤ 200 := hl
    rw [rf_tape hm]
    refine hx_bs ?_
    rw [fi_g hm ht.1.1]
    refine hx_bs ?_
    rw [st_tape hm (by omega)]
    refine hx_bs ?_
    obtain ⟨σa, ea⟩ : ∃ s', s' = wA σ (m + 5) t.length (nI (byt v s)) := ⟨_, rfl⟩
    have wa : rfM m [8] [5] nV σ σa := by rw [ea]; exact rfM.wA (by simp) (by omega)
    have ma := wa.ms hm
    have a8 : Fi σa m 8 (nI t.length) := by rw [ea]; exact fi_wA ht.1.1
    rw [← ea, fi_g ma a8]
    refine hx_bs ?_
    rw [sm_add, rf_pI ma]
    refine hx_bs ?_
    rw [n_fX12_takesBytes_42]
    refine hx_nm ?_
    have wb : rfM m [8] [5] nV σa (wI σa (fid 16 8) m (nI (t.length + 1))) := rfM.wI (by simp)
    refine hK _ (wb.ms ma) (wa.tr wb) ⟨⟨by rw [List.length_append]; exact fi_wI, by rw [List.length_append]; exact hl⟩, fun i b hi => ?_, fun b hb' => ?_⟩
    · have e5 : ∀ i, sA (wI σa (fid 16 8) m (nI (t.length + 1))) (m + 5) i = if i = t.length then nI (byt v s) else sA σ (m + 5) i := by
        intro i
        show sA σa (m + 5) i = _
        rw [ea]
        split
        · rename_i q; rw [q, sA_wA_eq]
        · rename_i q; rw [sA_wA_j q]
      rw [e5]
      by_cases ci : i = t.length
      · rw [if_pos ci]
        rw [ci, List.getElem?_append_right (Nat.le_refl _), Nat.sub_self] at hi
        cases hi
        rfl
      · rw [if_neg ci]
        have hil := (List.getElem?_eq_some_iff.mp hi).1
        rw [List.length_append, List.length_singleton] at hil
        rw [List.getElem?_append_left (by omega)] at hi
        exact ht.2.1 i b hi
    · rcases List.mem_append.mp hb' with q | q
      · exact ht.2.2 b q
      · rw [List.mem_singleton] at q
        subst q
        omega
theorem rf_takesBytes {σ : St} {m : Nat} {t : List Nat} {v : Int32} (hm : MS σ m) (ht : RTx σ m t) (hl : t.length + (lys v).length ≤ 200) : Hx (fX12_takesBytes σ m v) (fun σ' _ => rfM m [8] [5] nV σ σ' ∧ RTx σ' m (t ++ lys v)) := by
  have hly := lys_le v
  have b1 : (byL v (24 - 8)).length = (byL v 16).length := rfl
  have b2 : (byL v (24 - 8 - 8)).length = (byL v 8).length := rfl
  have b3 : (byL v (24 - 8 - 8 - 8)).length = (byL v 0).length := rfl
  have n8 : ∀ s, 8 ≤ s → nI s + iz (-8) = nI (s - 8) := by
    intro s hs
    rw [sm_iz, iz_add, sm_iz]
    congr 1
    omega
  rw [n_fX12_takesBytes, show FU = (FU - 5) + 1 + 1 + 1 + 1 + 1 by unfold FU; omega]
  refine rf_tb (by omega) hm ht (by omega) (fun σ1 m1 r1 t1 => ?_)
  rw [n8 24 (by omega)]
  refine rf_tb (by omega) m1 t1 (by rw [List.length_append]; omega) (fun σ2 m2 r2 t2 => ?_)
  rw [n8 (24 - 8) (by omega)]
  refine rf_tb (by omega) m2 t2 (by rw [List.length_append, List.length_append]; omega) (fun σ3 m3 r3 t3 => ?_)
  rw [n8 (24 - 8 - 8) (by omega)]
  refine rf_tb (by omega) m3 t3 (by rw [List.length_append, List.length_append, List.length_append]; omega) (fun σ4 m4 r4 t4 => ?_)
  rw [n_fX12_takesBytes_3, if_pos (show nI (24 - 8 - 8 - 8) + iz (-8) < nI 0 by rw [show nI (24 - 8 - 8 - 8) + iz (-8) = iz (-8) from rfl, show nI 0 = iz 0 from rfl, iz_lt (by omega) (by omega) (by omega) (by omega)]; omega)]
  refine Hx.ret ⟨r1.tr (r2.tr (r3.tr r4)), ?_⟩
  rw [lys_by]
  have e : t ++ (byL v 24 ++ (byL v 16 ++ (byL v 8 ++ byL v 0))) = t ++ byL v 24 ++ byL v (24 - 8) ++ byL v (24 - 8 - 8) ++ byL v (24 - 8 - 8 - 8) := by
    rw [List.append_assoc, List.append_assoc, List.append_assoc]
  rw [e]
  exact t4
def apT (t : List Nat) (a b c d e : Int32) : List Nat := t ++ lys a ++ lys b ++ lys c ++ lys d ++ lys e
theorem apT_len (t : List Nat) (a b c d e : Int32) : (apT t a b c d e).length = t.length + ((lys a).length + (lys b).length + (lys c).length + (lys d).length + (lys e).length) := by
  unfold apT
  rw [List.length_append, List.length_append, List.length_append, List.length_append, List.length_append]
  omega
theorem ri_append {σ : St} {m : Nat} {c : Rct} {s : Rst} {a b d e g : Int32} (h : RI σ m c s) : Hx (fX12_append σ m a b d e g) (RO m c s (if (apT s.1 a b d e g).length ≤ 200 then 0 else 1) (apT s.1 a b d e g).length (if (apT s.1 a b d e g).length ≤ 200 then (apT s.1 a b d e g, s.2) else s) σ) := by
  have la := lys_len a
  have lb := lys_len b
  have ld := lys_len d
  have le := lys_len e
  have lg := lys_len g
  have hal := apT_len s.1 a b d e g
  rw [n_fX12_append]
  refine rf_set0 h.1.1 (fun σ1 r1 m1 f0 => ?_)
  have h1 := h.k0 r1
  have ht := h1.1.2.1
  have htl := ht.1.2
  rw [rf_bytesIn]
  refine hx_cs ?_
  rw [rf_bytesIn]
  refine hx_cs ?_
  rw [rf_bytesIn]
  refine hx_cs ?_
  rw [rf_bytesIn]
  refine hx_cs ?_
  rw [rf_bytesIn]
  refine hx_cs ?_
  rw [sm_add, sm_add, sm_add, sm_add]
  refine hx_nm ?_
  rw [fi_g m1 ht.1.1]
  refine hx_bs ?_
  rw [sm_add]
  refine Hx.ce (sm_lt (by omega) (by omega)) (fun c2 => ?_) (fun c2 => ?_)
  · rw [n_fX12_append_52, rf_ck m1]
    refine hx_bs ?_
    refine Hx.bd (rf_fails0 m1 f0 (show 0 < 1 by omega) (by omega)) (fun σ5 v g => ?_)
    obtain ⟨rfl, r5, f5⟩ := g
    refine Hx.ce (sm_eq (show 1 < 2147483648 by omega) (by omega)) (fun z => absurd z (by omega)) (fun _ => ?_)
    rw [if_neg (by omega), if_neg (by omega)]
    exact Hx.ret ⟨r1.1.tr r5.1, f5, fun q => (by cases q), c, h1.k0 r5, RBd.rf rfl⟩
  · rw [n_fX12_append_52, rf_ck m1]
    refine hx_bs ?_
    rw [rf_fails1 m1 f0]
    refine hx_cs (Hx.ce rfl (fun _ => ?_) (fun q => absurd rfl q))
    rw [rf_ck m1]
    refine hx_bs ?_
    refine Hx.bd (rf_takesBytes m1 ht (by omega)) (fun σ2 _ g => ?_)
    obtain ⟨r2, t2⟩ := g
    have m2 := r2.ms m1
    rw [rf_ck m2]
    refine hx_bs ?_
    refine Hx.bd (rf_takesBytes m2 t2 (by rw [List.length_append]; omega)) (fun σ3 _ g => ?_)
    obtain ⟨r3, t3⟩ := g
    have m3 := r3.ms m2
    rw [rf_ck m3]
    refine hx_bs ?_
    refine Hx.bd (rf_takesBytes m3 t3 (by rw [List.length_append, List.length_append]; omega)) (fun σ4 _ g => ?_)
    obtain ⟨r4, t4⟩ := g
    have m4 := r4.ms m3
    rw [rf_ck m4]
    refine hx_bs ?_
    refine Hx.bd (rf_takesBytes m4 t4 (by rw [List.length_append, List.length_append, List.length_append]; omega)) (fun σ5 _ g => ?_)
    obtain ⟨r5, t5⟩ := g
    have m5 := r5.ms m4
    rw [rf_ck m5]
    refine hx_bs ?_
    refine Hx.bd (rf_takesBytes m5 t5 (by rw [List.length_append, List.length_append, List.length_append, List.length_append]; omega)) (fun σ6 _ g => ?_)
    obtain ⟨r6, t6⟩ := g
    have m6 := r6.ms m5
    have r26 : rfM m [8] [5] nV σ1 σ6 := r2.tr (r3.tr (r4.tr (r5.tr r6)))
    have t6 : RTx σ6 m (apT s.1 a b d e g) := t6
    rw [fi_g m6 t6.1.1, if_pos (by omega), if_pos (by omega)]
    obtain ⟨⟨a1, a2, a3, a4⟩, bb, dd, ⟨e1, e2, e3⟩, ff⟩ := id h1
    have hK : Kp m c.1 c.2.1 c.2.2 σ1 σ6 := Kp.of r26 (by decide) (fun _ _ _ z => z)
    refine hx_bs (Hx.ret ⟨r1.1.tr r26.1, f0.keep r26 (by decide), fun _ => sm_iz _, c, (h1.core.keep r26 hK ⟨by decide, by decide⟩ (fun _ _ _ z => z)).done t6 (a3.keep r26 (by decide)) (e1.keep r26 (by decide)) (e2.keep r26 (by decide)) (e3.keep r26 (by decide)) ff, ?_⟩)
    show c.1 + (apT s.1 a b d e g).length ≤ c.1 + s.1.length + 23 ∧ c.2.1 + (apT s.1 a b d e g).length ≤ c.2.1 + s.1.length + 20 ∧ c.2.2 ≤ c.2.2 + 1
    omega
