/-! ===== calls of the one that was built: digits are written ===== -/
/-- a text that grew since σ0 -/
def TxF (x b : Nat) (σ0 σ : St) (wr : List Nat) : Prop := ∃ k d, cW x (sTx σ0 b) k d σ0 σ ∧ KWr σ b wr ∧ (sF σ (fid 1 0) b = sF σ0 (fid 1 0) b ∨ sz σ0 ≤ sF σ (fid 1 0) b) ∧ k + 2 * sN σ0 (sF σ0 (fid 1 0) b) ≤ 2 * sN σ (sF σ (fid 1 0) b) ∧ d + sN σ0 (sF σ0 (fid 1 0) b) ≤ sN σ (sF σ (fid 1 0) b) ∧ (sN σ (sF σ (fid 1 0) b) = sN σ0 (sF σ0 (fid 1 0) b) ∨ sN σ (sF σ (fid 1 0) b) ≤ 2 * wr.length)
theorem TxF.rf {x b : Nat} {σ : St} {wr : List Nat} (hp : HP (PX x) σ) (h : KWr σ b wr) : TxF x b σ σ wr := ⟨0, 0, cW.rf hp, h, Or.inl rfl, by omega, by omega, Or.inl rfl⟩
theorem TxF.app {x b c : Nat} {σ0 σ : St} {wr : List Nat} (h : TxF x b σ0 σ wr) (hl : wr.length ≤ 1000) (hc : c < 128) : Hx (fJ4_append_cf468 σ b (nI c)) (fun σ' _ => TxF x b σ0 σ' (wr ++ [c])) := by
  obtain ⟨k, d, hF, hW, ha, hk, hd, hcap⟩ := h
  refine (sbd_append hF.hp hW hl hc).mo (fun σ' _ g => ?_)
  obtain ⟨k', d', hF', hW', hor⟩ := g
  have hz := hF.2.1.1
  have htr := hF.tr hF' (fun r hr hs => by
    rcases hs with q | q
    · exact Or.inl q
    · rcases ha with e | e
      · exact Or.inr (q.trans e)
      · omega)
  have k101 : sK σ (sF σ (fid 1 0) b) = 101 := hW.2.2.2.1.1
  have haz : sF σ (fid 1 0) b < sz σ := hF.hp.1.lt (by omega)
  have hN := (hF'.2.1.2 _ haz).2.1
  have el : (wr ++ [c]).length = wr.length + 1 := by rw [List.length_append, List.length_singleton]
  rcases hor with ⟨g1, g2, g3⟩ | ⟨g1, g2, g3, g4, g5⟩
  · refine ⟨_, _, htr, hW', by rw [g1]; exact ha, ?_, ?_, ?_⟩
    · rw [g1, hN]; omega
    · rw [g1, hN]; omega
    · rw [g1, hN, el]; omega
  · refine ⟨_, _, htr, hW', Or.inr (by omega), ?_, ?_, ?_⟩
    · rw [g5]; omega
    · rw [g5]; omega
    · rw [g5, el]; omega
/-- a number stays while a text grows -/
theorem TxF.nt {x b a y : Nat} {σ0 σ : St} {wr wr0 : List Nat} (h : TxF x b σ0 σ wr) (h0 : KWr σ0 b wr0) (hN : Nt σ0 a y) : Nt σ a y := by
  obtain ⟨k, d, hF, _⟩ := h
  have k8 : sK σ0 a = 8 := by obtain ⟨l, n, w, h1, _⟩ := hN; exact h1.1
  refine hN.kW hF (fun z => ?_)
  rcases z with q | q
  · subst q
    have := h0.1
    omega
  · subst q
    have := h0.2.2.2.1.1
    omega
theorem cl_wd {x b a y : Nat} {σ0 : St} {wr0 : List Nat} (h0 : KWr σ0 b wr0) (hN : Nt σ0 a y) (hy : y < 10 ^ 36) : ∀ (k n i : Nat) (wr : List Nat) (σ : St), k < n → i + k = (dgx y).length → TxF x b σ0 σ wr → wr.length ≤ 900 + i →
    Hx (fX11_writeDigits_7 n σ a b (nI (dgx y).length) (nI i)) (fun σ' _ => TxF x b σ0 σ' (wr ++ ((dgx y).drop i).map (48 + ·))) := by
  have hl36 := dgx_len hy
  have k8 : ∀ σ, Nt σ a y → sK σ a = 8 := fun σ h => by obtain ⟨l, n, w, h1, _⟩ := h; exact h1.1
  intro k
  induction k with
  | zero =>
    intro n i wr σ hn hik hT hl
    obtain ⟨n, rfl⟩ : ∃ j, n = j + 1 := ⟨n - 1, by omega⟩
    rw [n_fX11_writeDigits_7]
    refine Hx.ce (sm_le (by omega) (by omega)) (fun _ => ?_) (fun c => absurd c (by omega))
    have ei : i = (dgx y).length := by omega
    rw [ei, List.drop_length, List.map_nil, List.append_nil]
    exact Hx.ret hT
  | succ k ih =>
    intro n i wr σ hn hik hT hl
    obtain ⟨n, rfl⟩ : ∃ j, n = j + 1 := ⟨n - 1, by omega⟩
    have hi : i < (dgx y).length := by omega
    have hNt := hT.nt h0 hN
    rw [n_fX11_writeDigits_7]
    refine Hx.ce (sm_le (by omega) (by omega)) (fun c => absurd c (by omega)) (fun _ => ?_)
    rw [sm_ckK (k8 _ hNt)]
    refine hx_bs ?_
    rw [cn_digitAt hNt hy hi]
    refine hx_cs ?_
    have hgt := dgx_get (x := y) (by omega) hi
    generalize hdd : y / 10 ^ ((dgx y).length - 1 - i) % 10 = dd at *
    have hd10 : dd < 10 := by rw [← hdd]; exact Nat.mod_lt _ (by omega)
    have hb2 : sK σ b = 2 := by obtain ⟨_, _, _, hW, _⟩ := hT; exact hW.1
    rw [sm_ckK hb2]
    refine hx_bs ?_
    rw [sm_add, (ch_c (48 + dd) (by omega)).2.2]
    refine Hx.bd (hT.app (c := 48 + dd) (by omega) (by omega)) (fun σ1 _ hT1 => ?_)
    refine hx_nm ?_
    rw [sm_add]
    refine (ih n (i + 1) (wr ++ [48 + dd]) σ1 (by omega) (by omega) hT1 (by rw [List.length_append, List.length_singleton]; omega)).mo (fun σ2 _ g => ?_)
    have ed : (dgx y).drop i = dd :: (dgx y).drop (i + 1) := by
      rw [List.drop_eq_getElem_cons hi]
      have := List.getElem?_eq_getElem hi
      rw [this] at hgt
      rw [Option.some.inj hgt]
    rw [ed, List.map_cons]
    rw [List.append_assoc] at g
    exact g
theorem cx_writeDigits {x b a y : Nat} {σ0 σ : St} {wr0 wr : List Nat} (h0 : KWr σ0 b wr0) (hN : Nt σ0 a y) (hy : y < 10 ^ 36) (hT : TxF x b σ0 σ wr) (hl : wr.length ≤ 900) : Hx (fX11_writeDigits σ a b) (fun σ' _ => TxF x b σ0 σ' (wr ++ (dgx y).map (48 + ·))) := by
  have hNt := hT.nt h0 hN
  have k8 : sK σ a = 8 := by obtain ⟨l, n, w, h1, _⟩ := hNt; exact h1.1
  have hl36 := dgx_len hy
  rw [n_fX11_writeDigits, sm_ckK k8]
  refine hx_bs ?_
  rw [cn_digitCount hNt hy]
  refine hx_cs ?_
  exact cl_wd h0 hN hy (dgx y).length FU 0 wr σ (by unfold FU; omega) (by omega) hT (by omega)
