/-! ===== the law: all calls, one behind the other ===== -/
section
variable {x b L c9 w9 : Nat} {xs : Nat → Int32}
theorem lw_if {P : Prop} {d : Decidable P} {A B : Prop} (ha : A) (hb : B) : @ite _ P d A B := by
  by_cases q : P
  · rw [if_pos q]; exact ha
  · rw [if_neg q]; exact hb
theorem PX_len (x : Nat) : (PX x).length = 23 := rfl
theorem Pot_all {σ : St} : ∀ {P : List Nat}, (∀ a ∈ P, sN σ (lb σ a) ≤ 2001) → Pot P σ ≤ 2001 * P.length
  | [], _ => Nat.le_refl _
  | a :: P, h => by
    have h1 := Pot_all (fun a ha => h a (List.mem_cons_of_mem _ ha)) (P := P)
    have h2 := h a List.mem_cons_self
    unfold Pot at h1 ⊢
    rw [List.map_cons, List.sum_cons, List.length_cons]
    omega
theorem mid_end {i : Nat} {s : Kst} {c : Rct} {r : Rst} {σ : St} (hM : Mid x b L xs i s.1.length s c r σ) (hi : i ≤ 512) : sc σ ≤ 603072 ∧ sw σ ≤ 7207018 := by
  obtain ⟨⟨o, k⟩, _, _, _, ⟨h1, h2⟩⟩ := hM
  have hp : Pot (PX x) σ ≤ 2001 * 23 := by
    rw [← PX_len x]
    refine Pot_all (fun a ha => ?_)
    obtain ⟨v, l, n, w, ⟨_, hl, _, hn, _, h3⟩, _⟩ := k.1.1.2 a ha
    rw [show lb σ a = l from hl, hn]
    exact h3
  have hn := NP_le σ x
  have hl : lsum RfL ≤ 600000 := by decide
  omega
theorem law_loop (hL3 : L ≤ 3072) : ∀ (n i : Nat) (s : Kst) (c : Rct) (h : As × List As × List As) (σ : St), 512 - i < n → i ≤ 512 → Mid x b L xs i s.1.length s c (rst s h) σ → Hg s h → Cb c s.1.length i → pL_law_23 603072 7207018 n σ b x (x + 98) (x + 143) (nI (6 * i)) := by
  intro n
  induction n with
  | zero => intro i s c h σ hn; omega
  | succ n ih =>
    intro i s c h σ hn hi hM hH hC
    obtain ⟨s1, s2, s3, s4⟩ := hM.2.2.2.1
    unfold pL_law_23
    refine ⟨nI (sN σ b), if_pos (Or.inr s2), ?_⟩
    dsimp only
    rw [s3]
    have e : (nI L - 6 < nI (6 * i)) = (L < 6 * i + 6) := by
      rw [show (6 : Int32) = iz 6 from rfl, sm_iz, sm_iz, iz_sub, iz_lt (by omega) (by omega) (by omega) (by omega)]
      exact propext ⟨fun y => by omega, fun y => by omega⟩
    by_cases c6 : L < 6 * i + 6
    · rw [if_pos (e.mpr c6)]
      exact mid_end hM hi
    · rw [if_neg (fun y => c6 (e.mp y))]
      have hL : Lo x b L xs i s c h σ := ⟨hM, hH, hC, by omega, by omega, hL3⟩
      refine ⟨xs (6 * i), (sm_ld5 s2 (by rw [s3]; omega) (by omega)).trans (congrArg some (s4 _)), ?_⟩
      dsimp only
      unfold nm
      have hn : Nx x b L xs i (pL_law_23 603072 7207018 n) := fun s c h σ hM hH hC => ih (i + 1) s c h σ (by omega) (by omega) hM hH hC
      have hsk : pL_law_2380 603072 7207018 (pL_law_23 603072 7207018 n) σ b x (x + 98) (x + 143) (nI (6 * i)) := by
        refine nx_of (s' := s) (h' := h) (c' := c) (r' := rst s h) hn hL ?_ ⟨by omega, by omega, by omega⟩ rfl rfl hH
        obtain ⟨o, k⟩ := hL.ki
        exact mid_cls hM (cO.rf k.1.1) ⟨o, k⟩ (by omega) (by omega)
      exact (lw_if (br_248 hn hL) (lw_if (br_352 hn hL) (lw_if (br_365 hn hL) (lw_if (br_409 hn hL) (lw_if (br_422 hn hL) (lw_if (br_478 hn hL) (lw_if (br_491 hn hL) (lw_if (br_504 hn hL) (lw_if (br_560 hn hL) (lw_if (br_573 hn hL) (lw_if (br_614 hn hL) (lw_if (br_698 hn hL) (lw_if (br_739 hn hL) (lw_if (br_795 hn hL) (lw_if (br_851 hn hL) (lw_if (br_907 hn hL) (lw_if (br_975 hn hL) (lw_if (br_988 hn hL) (lw_if (br_1044 hn hL) (lw_if (br_1100 hn hL) (lw_if (br_1113 hn hL) (lw_if (br_1169 hn hL) (lw_if (br_1262 hn hL) (lw_if (br_1315 hn hL) (lw_if (br_1399 hn hL) (lw_if (br_1412 hn hL) (lw_if (br_1468 hn hL) (lw_if (br_1524 hn hL) (lw_if (br_1537 hn hL) (lw_if (br_1550 hn hL) (lw_if (br_1563 hn hL) (lw_if (br_1619 hn hL) (lw_if (br_1632 hn hL) (lw_if (br_1688 hn hL) (lw_if (br_1744 hn hL) (lw_if (br_1757 hn hL) (lw_if (br_1813 hn hL) (lw_if (br_1869 hn hL) (lw_if (br_1925 hn hL) (lw_if (br_1981 hn hL) (lw_if (br_2065 hn hL) (lw_if (br_2133 hn hL) (lw_if (br_2189 hn hL) (lw_if (br_2257 hn hL) (lw_if (br_2270 hn hL) (lw_if (br_2283 hn hL) (lw_if (br_2324 hn hL) (lw_if (br_2367 hn hL) hsk))))))))))))))))))))))))))))))))))))))))))))))))
end
