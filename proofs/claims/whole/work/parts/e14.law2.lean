/-! ===== the law: calls with nothing in hand ===== -/
def Good (A : As) : Prop := Bkz A ∧ A.2.2.length = 3 ∧ ∀ vs ∈ A.2.2, vs.length ≤ 50 ∧ (∀ q ∈ vs, qok q) ∧ vs.Pairwise fun p q => cmpq p q ≤ 0
/-- the states that can be undone and done again: the class' row of states, the reference's -/
def Hr (now : Nat) (H : List As) (h : As × List As × List As) : Prop := now = h.2.1.length ∧ H.length = h.2.1.length + 1 + h.2.2.length ∧ H.length ≤ 21 ∧ ∀ (i : Nat) (A : As), H[i]? = some A → ∃ B : As, (h.2.1 ++ [h.1] ++ h.2.2.reverse)[i]? = some B ∧ Bti A B
def Hg (s : Kst) (h : As × List As × List As) : Prop := Hr s.2.2.2.2.2.2.2.1 s.2.2.2.2.2.2.2.2 h ∧ ∀ A ∈ s.2.2.2.2.2.2.2.2, Good A
def Cb (c : Rct) (t i : Nat) : Prop := c.1 + t ≤ 601 + 23 * i ∧ c.2.1 + t ≤ 20 * i ∧ c.2.2 ≤ i
def Lo (x b L : Nat) (xs : Nat → Int32) (i : Nat) (s : Kst) (c : Rct) (h : As × List As × List As) (σ : St) : Prop := Mid x b L xs i s.1.length s c (rst s h) σ ∧ Hg s h ∧ Cb c s.1.length i ∧ i < 512 ∧ 6 * i + 6 ≤ L ∧ L ≤ 3072
def Nx (x b L : Nat) (xs : Nat → Int32) (i : Nat) (k23 : St → Nat → Nat → Nat → Nat → Int32 → Prop) : Prop := ∀ (s : Kst) (c : Rct) (h : As × List As × List As) (σ : St), Mid x b L xs (i + 1) s.1.length s c (rst s h) σ → Hg s h → Cb c s.1.length (i + 1) → k23 σ b x (x + 98) (x + 143) (nI (6 * (i + 1)))
section
variable {x b L i c9 w9 : Nat} {xs : Nat → Int32} {s s' : Kst} {c c' : Rct} {h h' : As × List As × List As} {σ σ' : St} {k23 : St → Nat → Nat → Nat → Nat → Int32 → Prop}
theorem Lo.ki (hL : Lo x b L xs i s c h σ) : ∃ o, KI σ x o s := hL.1.1
theorem Lo.now (hL : Lo x b L xs i s c h σ) : ∃ A, s.2.2.2.2.2.2.2.2[s.2.2.2.2.2.2.2.1]? = some A ∧ Good A ∧ Bti A h.1 := by
  obtain ⟨⟨h1, h2, h21, h3⟩, h4⟩ := hL.2.1
  obtain ⟨A, hA⟩ := get_some (l := s.2.2.2.2.2.2.2.2) (i := s.2.2.2.2.2.2.2.1) (by omega)
  obtain ⟨B, hB, hT⟩ := h3 _ A hA
  refine ⟨A, hA, h4 A (List.mem_of_getElem? hA), ?_⟩
  rw [h1, List.append_assoc, List.getElem?_append_right (Nat.le_refl _), Nat.sub_self] at hB
  cases hB
  exact hT
theorem nx_of {t' : Nat} (hn : Nx x b L xs i k23) (hL : Lo x b L xs i s c h σ) {r' : Rst} {σ4 : St} (hM : Mid x b L xs (i + 1) t' s' c' r' σ4) (hB : RBd c c' (rst s h) r') (hr : r' = rst s' h') (ht : t' = s'.1.length) (hH : Hg s' h') : pL_law_2380 c9 w9 k23 σ4 b x (x + 98) (x + 143) (nI (6 * i)) := by
  subst hr
  subst ht
  have e : nI (6 * i) + 6 = nI (6 * (i + 1)) := by
    rw [show (6 : Int32) = nI 6 from rfl, sm_add]
    congr 1
  show k23 σ4 b x (x + 98) (x + 143) (nI (6 * i) + 6)
  rw [e]
  obtain ⟨g1, g2, g3⟩ := hL.2.2.1
  obtain ⟨b1, b2, b3⟩ := hB
  have b1 : c'.1 + s'.1.length ≤ c.1 + s.1.length + 23 := b1
  have b2 : c'.2.1 + s'.1.length ≤ c.2.1 + s.1.length + 20 := b2
  exact hn s' c' h' σ4 hM hH ⟨by omega, by omega, by omega⟩
theorem lw_k {P : Unit → Prop} (hL : Lo x b L xs i s c h σ) (hP : P ()) : exB (ckK σ 16 x) P := by
  obtain ⟨o, k⟩ := hL.ki
  exact ⟨(), sm_ckK k.1.2.1.k0, hP⟩
/-- a call that changes neither tape nor history, and throws nothing -/
theorem br_v {K C : Nat} {val : Int} {fc : Option (St × Int32)} {fr : St → Option (St × Int32)} (hn : Nx x b L xs i k23) (hL : Lo x b L xs i s c h σ) (hc : Hx fc (KV x K C s' val σ)) (hr : ∀ σ1, RI σ1 (x + 98) c (rst s h) → Hx (fr σ1) (RV (x + 98) c (rst s h) val (rst s' h') σ1)) (h1 : K + 20 * s'.1.length ≤ 2500 + 20 * s.1.length) (h2 : C + 5 * s'.1.length ≤ 700 + 5 * s.1.length) (hH : Hg s' h') : exC fc fun σ1 v2 => exB (ckK σ1 17 (x + 98)) fun _ => exC (fr σ1) fun σ4 v5 => if v2 = v5 then pL_law_2380 c9 w9 k23 σ4 b x (x + 98) (x + 143) (nI (6 * i)) else False :=
  lw_v hL.1 hc hr h1 h2 (fun σ4 c' hM hB => nx_of hn hL hM hB rfl rfl hH)
theorem br_352 (hn : Nx x b L xs i k23) (hL : Lo x b L xs i s c h σ) : pL_law_352 c9 w9 k23 σ b x (x + 98) (x + 143) (nI (6 * i)) := by
  obtain ⟨o, k⟩ := hL.ki
  exact lw_k hL (br_v hn hL (s' := ([], s.2)) (h' := h) (ki_clearTape k) (fun σ1 r => ri_clearTape r) (by show 0 + 20 * 0 ≤ _; omega) (by show 0 + 5 * 0 ≤ _; omega) hL.2.1)
theorem br_409 (hn : Nx x b L xs i k23) (hL : Lo x b L xs i s c h σ) : pL_law_409 c9 w9 k23 σ b x (x + 98) (x + 143) (nI (6 * i)) := by
  obtain ⟨o, k⟩ := hL.ki
  exact lw_k hL (br_v hn hL (h' := h) (ki_errorPosition k) (fun σ1 r => ri_errorPosition r) (by omega) (by omega) hL.2.1)
theorem br_478 (hn : Nx x b L xs i k23) (hL : Lo x b L xs i s c h σ) : pL_law_478 c9 w9 k23 σ b x (x + 98) (x + 143) (nI (6 * i)) := by
  obtain ⟨o, k⟩ := hL.ki
  exact lw_k hL (br_v hn hL (h' := h) (ki_failed k) (fun σ1 r => ri_failed r) (by omega) (by omega) hL.2.1)
theorem br_491 (hn : Nx x b L xs i k23) (hL : Lo x b L xs i s c h σ) : pL_law_491 c9 w9 k23 σ b x (x + 98) (x + 143) (nI (6 * i)) := by
  obtain ⟨o, k⟩ := hL.ki
  exact lw_k hL (br_v hn hL (h' := h) (ki_ring k) (fun σ1 r => ri_ring r) (by omega) (by omega) hL.2.1)
theorem br_560 (hn : Nx x b L xs i k23) (hL : Lo x b L xs i s c h σ) : pL_law_560 c9 w9 k23 σ b x (x + 98) (x + 143) (nI (6 * i)) := by
  obtain ⟨o, k⟩ := hL.ki
  exact lw_k hL (br_v hn hL (h' := h) (ki_sign k) (fun σ1 r => ri_sign r) (by omega) (by omega) hL.2.1)
theorem br_975 (hn : Nx x b L xs i k23) (hL : Lo x b L xs i s c h σ) : pL_law_975 c9 w9 k23 σ b x (x + 98) (x + 143) (nI (6 * i)) := by
  obtain ⟨o, k⟩ := hL.ki
  obtain ⟨A, hA, hG, hT⟩ := hL.now
  have e : A.1.length = h.1.1.length := (mem_len hT.1.1 hT.2.2.1 hG.1.1.srt.1.unq).symm
  refine lw_k hL (br_v hn hL (h' := h) (ki_names k hA) (fun σ1 r => ?_) (by omega) (by omega) hL.2.1)
  rw [e]
  exact ri_names r
theorem br_1100 (hn : Nx x b L xs i k23) (hL : Lo x b L xs i s c h σ) : pL_law_1100 c9 w9 k23 σ b x (x + 98) (x + 143) (nI (6 * i)) := by
  obtain ⟨o, k⟩ := hL.ki
  obtain ⟨A, hA, hG, hT⟩ := hL.now
  have e : A.2.1.length = h.1.2.1.length := (mem_len hT.1.2 hT.2.2.2 hG.1.1.srt.2.unq).symm
  refine lw_k hL (br_v hn hL (h' := h) (ki_functions k hA) (fun σ1 r => ?_) (by omega) (by omega) hL.2.1)
  rw [e]
  exact ri_functions r
theorem br_1399 (hn : Nx x b L xs i k23) (hL : Lo x b L xs i s c h σ) : pL_law_1399 c9 w9 k23 σ b x (x + 98) (x + 143) (nI (6 * i)) := by
  obtain ⟨o, k⟩ := hL.ki
  exact lw_k hL (br_v hn hL (h' := h) (ki_steps k) (fun σ1 r => ri_steps r) (by omega) (by omega) hL.2.1)
theorem br_1524 (hn : Nx x b L xs i k23) (hL : Lo x b L xs i s c h σ) : pL_law_1524 c9 w9 k23 σ b x (x + 98) (x + 143) (nI (6 * i)) := by
  obtain ⟨o, k⟩ := hL.ki
  exact lw_k hL (br_v hn hL (h' := h) (ki_ends k) (fun σ1 r => ri_ends r) (by omega) (by omega) hL.2.1)
theorem br_1537 (hn : Nx x b L xs i k23) (hL : Lo x b L xs i s c h σ) : pL_law_1537 c9 w9 k23 σ b x (x + 98) (x + 143) (nI (6 * i)) := by
  obtain ⟨o, k⟩ := hL.ki
  exact lw_k hL (br_v hn hL (h' := h) (ki_ahead k) (fun σ1 r => ri_ahead r) (by omega) (by omega) hL.2.1)
theorem br_1550 (hn : Nx x b L xs i k23) (hL : Lo x b L xs i s c h σ) : pL_law_1550 c9 w9 k23 σ b x (x + 98) (x + 143) (nI (6 * i)) := by
  obtain ⟨o, k⟩ := hL.ki
  exact lw_k hL (br_v hn hL (h' := h) (ki_repeating k) (fun σ1 r => ri_repeating r) (by omega) (by omega) hL.2.1)
theorem br_1619 (hn : Nx x b L xs i k23) (hL : Lo x b L xs i s c h σ) : pL_law_1619 c9 w9 k23 σ b x (x + 98) (x + 143) (nI (6 * i)) := by
  obtain ⟨o, k⟩ := hL.ki
  exact lw_k hL (br_v hn hL (h' := h) (ki_continued k) (fun σ1 r => ri_continued r) (by omega) (by omega) hL.2.1)
theorem br_1744 (hn : Nx x b L xs i k23) (hL : Lo x b L xs i s c h σ) : pL_law_1744 c9 w9 k23 σ b x (x + 98) (x + 143) (nI (6 * i)) := by
  obtain ⟨o, k⟩ := hL.ki
  have hc := hL.2.2.1.1
  have h5 := hL.2.2.2.1
  exact lw_k hL (br_v hn hL (h' := h) (ki_units k) (fun σ1 r => ri_units (by omega) r) (by omega) (by omega) hL.2.1)
theorem br_2367 (hn : Nx x b L xs i k23) (hL : Lo x b L xs i s c h σ) : pL_law_2367 c9 w9 k23 σ b x (x + 98) (x + 143) (nI (6 * i)) := by
  obtain ⟨o, k⟩ := hL.ki
  obtain ⟨A, hA, hG, hT⟩ := hL.now
  exact lw_k hL (br_v hn hL (h' := h) (ki_errors k hA hG.1) (fun σ1 r => ri_errors r) (by omega) (by omega) hL.2.1)
end
