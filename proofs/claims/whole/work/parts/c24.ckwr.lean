/-! ===== calls of the one that was built: write ===== -/
theorem cx_wd_end {x o d f a r : Nat} {s : Kst} {σ0 σ : St} {wr : List Nat} {k : Nat} (ha : a ≤ 100) (hwr : wr.length ≤ 900) (hT : TxK x o s σ0 σ wr) : Hx (if nI a ≤ nI 0 then some (σ, ()) else Option.bind (gF σ 15 10 x) fun v3 => Option.bind (ckK σ 2 v3) fun _ => cb (fJ4_append_cf468 σ v3 (nI 93)) fun σ4 _ => some (σ4, ())) (fun σ' (_ : Unit) => TxK x o s σ0 σ' (wr ++ dds d f a 0 k r)) := by
  refine Hx.ce (sm_le (by omega) (by omega)) (fun c => ?_) (fun c => ?_)
  · have e : dds d f a 0 k r = [] := if_neg (by omega)
    rw [e, List.append_nil]
    exact Hx.ret hT
  · have e : dds d f a 0 k r = [93] := if_pos (by omega)
    rw [e]
    obtain ⟨_, _, _, _, e10, ec⟩ := hT.wr
    rw [e10]
    refine hx_bs ?_
    rw [ec]
    refine hx_bs ?_
    exact Hx.bd (hT.app (c := 93) (by omega) (by omega)) (fun σ1 _ g => Hx.ret g.2)
theorem cl_wdc {x o d f a : Nat} {s : Kst} {σ0 : St} (hdd : s.2.2.2.1.2.2 = d) (hfa : f + a ≤ 100) : ∀ (j n k r : Nat) (wr : List Nat) (σ : St), j < n → k + j = f + a → wr.length ≤ 300 + 2 * k → r < d → Nt σ (x + 43) r → TxK x o s σ0 σ wr →
    Hx (fX11_writeDecimals_56 n σ x (nI f) (nI a) (nI k)) (fun σ' _ => TxK x o s σ0 σ' (wr ++ dds d f a j k r)) := by
  intro j
  induction j with
  | zero =>
    intro n k r wr σ hn hk hl hr hR hT
    obtain ⟨n, rfl⟩ : ∃ j, n = j + 1 := ⟨n - 1, by omega⟩
    rw [n_fX11_writeDecimals_56, sm_add]
    refine Hx.ce (sm_le (by omega) (by omega)) (fun _ => ?_) (fun c => absurd c (by omega))
    exact cx_wd_end (by omega) (by omega) hT
  | succ j ih =>
    intro n k r wr σ hn hk hl hr hR hT
    obtain ⟨n, rfl⟩ : ∃ j, n = j + 1 := ⟨n - 1, by omega⟩
    rw [n_fX11_writeDecimals_56, sm_add]
    refine Hx.ce (sm_le (by omega) (by omega)) (fun c => absurd c (by omega)) (fun _ => ?_)
    have h78 : ∀ (σ : St) (wr : List Nat), wr.length ≤ 301 + 2 * k → Nt σ (x + 43) r → TxK x o s σ0 σ wr → Hx (fX11_writeDecimals_78 (fX11_writeDecimals_56 n) σ x (nI f) (nI a) (nI k)) (fun σ' _ => TxK x o s σ0 σ' (wr ++ ([48 + r * 10 / d] ++ dds d f a j (k + 1) (r * 10 % d)))) := by
      intro σ wr hl hR hT
      obtain ⟨hW, hp, hx, hTn, e10, ec⟩ := hT.wr
      have hA := hT.1.2.2.1.1
      have hq : qok s.2.2.2.1 := hA.2.2.1
      have hd : 0 < d ∧ d < dig30 := by rw [← hdd]; exact ⟨hq.2.2.1, hq.2.2.2.2.2⟩
      have hF := hA.2.2.2
      rw [show (wrK s wr).2.2.2.1.2.2 = d from hdd] at hF
      rw [n_fX11_writeDecimals_78, e10]
      refine hx_bs ?_
      rw [show gF σ 15 16 x = some (x + 18) from hx.gf 15 16 0 18 (by decide) (by decide)]
      refine hx_bs ?_
      rw [sm_gF (show sK σ x = 15 + 1 from hx.k0)]
      refine hx_bs ?_
      rw [hx.ck 18 10 (by decide)]
      refine hx_bs ?_
      refine Hx.bd (cx_nextDecimals (k := 1) hp hx hTn hF hA.1 hd hr (by omega) hR) (fun σ1 w g => ?_)
      obtain ⟨rfl, hF1, hR1⟩ := g
      rw [show r * 10 ^ 1 = r * 10 from rfl] at *
      have h10 : r * 10 / d < 10 := Nat.div_lt_of_lt_mul (by omega)
      have hT1 := hT.lw hF1 (fun r hr => by simp only [s3] at hr; omega)
      obtain ⟨hW1, hp1, hx1, hTn1, e101, ec1⟩ := hT1.wr
      rw [ec1]
      refine hx_bs ?_
      rw [sm_add, (ch_c (48 + r * 10 / d) (by omega)).2.2]
      refine Hx.bd (hT1.app (c := 48 + r * 10 / d) (by omega) (by omega)) (fun σ2 _ g => ?_)
      refine hx_nm ?_
      rw [sm_add]
      refine (ih n (k + 1) (r * 10 % d) _ σ2 (by omega) (by omega) (by rw [List.length_append, List.length_singleton]; omega) (Nat.mod_lt _ hd.1) (g.1.nt hW1 hR1) g.2).mo (fun σ' _ q => ?_)
      rw [List.append_assoc] at q
      exact q
    show Hx _ (fun σ' _ => TxK x o s σ0 σ' (wr ++ ((if k = f then [91] else []) ++ [48 + r * 10 / d] ++ dds d f a j (k + 1) (r * 10 % d))))
    refine Hx.ce (sm_eq (by omega) (by omega)) (fun c => ?_) (fun c => ?_)
    · obtain ⟨hW, hp, hx, hTn, e10, ec⟩ := hT.wr
      rw [if_pos c, e10]
      refine hx_bs ?_
      rw [ec]
      refine hx_bs ?_
      refine Hx.bd (hT.app (c := 91) (by omega) (by omega)) (fun σ1 _ g => ?_)
      refine (h78 σ1 (wr ++ [91]) (by rw [List.length_append, List.length_singleton]; omega) (g.1.nt hW hR) g.2).mo (fun σ' _ q => ?_)
      rw [List.append_assoc] at q
      rw [List.append_assoc]
      exact q
    · rw [if_neg c, List.nil_append]
      exact h78 σ wr (by omega) hR hT
theorem cx_writeDecimals {x o f a : Nat} {s : Kst} {σ0 : St} (h : TxK x o s σ0 σ0 []) (hfa : f + a ≤ 100) : Hx (fX11_writeDecimals σ0 x (nI f) (nI a)) (fun σ' _ => TxK x o s σ0 σ' (sgW s.2.2.2.1 ++ cod (dgx (s.2.2.2.1.2.1 / s.2.2.2.1.2.2)) ++ ((if 0 < f + a then [46] else []) ++ dds s.2.2.2.1.2.2 f a (f + a) 0 (s.2.2.2.1.2.1 % s.2.2.2.1.2.2)))) := by
  have hA := h.1.2.2.1.1
  have hq : qok s.2.2.2.1 := hA.2.2.1
  have hsg := hq.sg
  have e30 : dig30 < 10 ^ 36 := by unfold dig30; omega
  have hn36 : s.2.2.2.1.2.1 < 10 ^ 36 := by have := hq.2.2.2.2.1; omega
  have hw36 : s.2.2.2.1.2.1 / s.2.2.2.1.2.2 < 10 ^ 36 := Nat.lt_of_le_of_lt (Nat.div_le_self _ _) hn36
  have hl36 := dgx_len hw36
  have hd : 0 < s.2.2.2.1.2.2 := hq.2.2.1
  have h54 : ∀ (σ : St) (wr : List Nat), wr.length ≤ 300 → Nt σ (x + 43) (s.2.2.2.1.2.1 % s.2.2.2.1.2.2) → TxK x o s σ0 σ wr → Hx (fX11_writeDecimals_54 σ x (nI f) (nI a)) (fun σ' _ => TxK x o s σ0 σ' (wr ++ dds s.2.2.2.1.2.2 f a (f + a) 0 (s.2.2.2.1.2.1 % s.2.2.2.1.2.2))) := by
    intro σ wr hl hR hT
    rw [n_fX11_writeDecimals_54]
    exact cl_wdc rfl hfa (f + a) FU 0 _ wr σ (by unfold FU; omega) (by omega) (by omega) (Nat.mod_lt _ hd) hR hT
  have h20 : ∀ (σ : St) (wr : List Nat), wr.length ≤ 1 → TxK x o s σ0 σ wr → Hx (fX11_writeDecimals_20 σ x (nI f) (nI a)) (fun σ' _ => TxK x o s σ0 σ' (wr ++ cod (dgx (s.2.2.2.1.2.1 / s.2.2.2.1.2.2)) ++ ((if 0 < f + a then [46] else []) ++ dds s.2.2.2.1.2.2 f a (f + a) 0 (s.2.2.2.1.2.1 % s.2.2.2.1.2.2)))) := by
    intro σ wr hl hT
    obtain ⟨hW, hp, hx, hTn, e10, ec⟩ := hT.wr
    have hA := hT.1.2.2.1.1
    rw [n_fX11_writeDecimals_20, show gF σ 15 16 x = some (x + 18) from hx.gf 15 16 0 18 (by decide) (by decide)]
    refine hx_bs ?_
    rw [sm_gF (show sK σ x = 15 + 1 from hx.k0)]
    refine hx_bs ?_
    rw [hx.ck 18 10 (by decide)]
    refine hx_bs ?_
    refine Hx.bd (cx_startDecimals hp hx hA.2.2.2 hA.1 hq.2.2.2.2.1) (fun σ1 v g => ?_)
    obtain ⟨rfl, hF1, hN1, hR1⟩ := g
    have hT1 := hT.lw hF1 (fun r hr => by simp only [s3] at hr; omega)
    obtain ⟨hW1, hp1, hx1, hTn1, e101, ec1⟩ := hT1.wr
    rw [e101]
    refine hx_bs ?_
    refine Hx.bd (cx_writeDigits hW1 hN1 hw36 (TxF.rf hp1 hW1) (by omega)) (fun σ2 _ g => ?_)
    have g : TxF x (x + 9) σ1 σ2 (wr ++ cod (dgx (s.2.2.2.1.2.1 / s.2.2.2.1.2.2))) := g
    have hR1 : Nt σ1 (x + 43) (s.2.2.2.1.2.1 % s.2.2.2.1.2.2) := hR1
    have hT2 := hT1.tx g (by rw [List.length_append]; omega)
    obtain ⟨hW2, hp2, hx2, hTn2, e102, ec2⟩ := hT2.wr
    have hR2 := g.nt hW1 hR1
    rw [sm_add]
    refine Hx.ce (sm_le (by omega) (by omega)) (fun c => ?_) (fun c => ?_)
    · rw [if_neg (show ¬ 0 < f + a by omega), List.nil_append]
      exact h54 σ2 _ (by rw [List.length_append, cod_len]; omega) hR2 hT2
    · rw [if_pos (show 0 < f + a by omega), e102]
      refine hx_bs ?_
      rw [ec2]
      refine hx_bs ?_
      refine Hx.bd (hT2.app (c := 46) (by rw [List.length_append, cod_len]; omega) (by omega)) (fun σ3 _ g3 => ?_)
      refine (h54 σ3 _ (by rw [List.length_append, List.length_append, cod_len, List.length_singleton]; omega) (g3.1.nt hW2 hR2) g3.2).mo (fun σ' _ q => ?_)
      rw [List.append_assoc] at q
      exact q
  have hx := h.1.1.2.1
  rw [n_fX11_writeDecimals, sm_gF (show sK σ0 x = 15 + 1 from hx.k0)]
  refine hx_bs ?_
  rw [(sm_gI (ci := 5) hA.2.2.2.1.1).trans (congrArg some hA.2.2.2.2.1.2)]
  refine hx_bs (Hx.ce (show (nI 0 ≤ iz s.2.2.2.1.1) = (0 ≤ s.2.2.2.1.1) by rw [show nI 0 = iz 0 from rfl, iz_le (by omega) (by omega) (by omega) (by omega)]) (fun c => ?_) (fun c => ?_))
  · have e : sgW s.2.2.2.1 = [] := if_neg (by omega)
    rw [e]
    exact h20 σ0 [] (by show 0 ≤ 1; omega) h
  · have e : sgW s.2.2.2.1 = [45] := if_pos (by omega)
    obtain ⟨hW, hp, hx, hTn, e10, ec⟩ := h.wr
    rw [e, e10]
    refine hx_bs ?_
    rw [ec]
    refine hx_bs ?_
    refine Hx.bd (h.app (c := 45) (by show 0 ≤ 1000; omega) (by omega)) (fun σ1 _ g => ?_)
    exact h20 σ1 [45] (by show 1 ≤ 1; omega) g.2
