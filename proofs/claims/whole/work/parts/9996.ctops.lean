/-! ===== the class' calls: undo, redo, ring, slots ===== -/
theorem ix_of {n : Nat} {v : Int32} (hn : n < 2147483648) (h1 : ¬ v < nI 0) (h2 : ¬ nI n ≤ v) : ∃ i : Nat, i < n ∧ v = nI i := by
  have hz1 := Int32.toInt_lt v
  have hz2 := Int32.le_toInt v
  have e := iz_self v
  rw [e, xm_lt (by omega) (by omega) (by omega)] at h1
  rw [e, mx_le (by omega) (by omega) (by omega)] at h2
  refine ⟨v.toInt.toNat, by omega, ?_⟩
  rw [sm_iz, Int.toNat_of_nonneg (by omega)]
  exact e
theorem cx_undo {x now : Nat} {H : List As} {σ : St} (hp : HP (PX x) σ) (hx : XS σ x) (hQ : SQ σ x) (hH : KHis σ x now H) :
    Hx (fX11_undo σ x) (fun σ' v => cW x (s1 x) 0 0 σ σ' ∧ xI [fid 15 14] x σ σ' ∧ KHis σ' x (now - 1) H ∧ v = if 1 ≤ now then nI (now - 1) else iz (-1)) := by
  obtain ⟨⟨h1, h2, h3, h4⟩, hi⟩ := id hH
  have k0 : sK σ x = 15 + 1 := hx.kd 0 16 (by decide)
  rw [n_fX11_undo, (sm_gI k0).trans (congrArg some h1)]
  refine hx_bs (Hx.ce (sm_le (by omega) (by omega)) (fun c => ?_) (fun c => ?_))
  · refine hx_bs ?_
    rw [sm_sub c, sm_pI k0]
    have hF : cW x (s1 x) 0 0 σ (wI σ (fid 15 14) x (nI (now - 1))) := cWi hp (by omega) (by omega)
    have hB := cB.of hF (fun r _ hs => by have : r = x := hs; omega) (fun T hT hs => by have : x + T = x := hs; rcases hT with g | g | g <;> omega) hx
    refine hx_bs ?_
    rw [(sm_gI (σ := wI σ (fid 15 14) x (nI (now - 1))) k0).trans (congrArg some sI_wI_eq)]
    refine hx_bs (Hx.ret ⟨hF, ⟨fun f hf => ?_, fun f => rfl⟩, ⟨⟨sI_wI_eq, (sI_wI_f (by decide)).trans h2, by omega, h4⟩, fun i A hA => (hi i A hA).kB hB hQ⟩, by rw [if_pos c]⟩)
    simp only [List.mem_cons, List.not_mem_nil, or_false] at hf
    exact sI_wI_f hf
  · refine Hx.ret ⟨cW.rf hp, xI.rf, ?_, by rw [if_neg c]⟩
    have : now - 1 = now := by omega
    rw [this]
    exact hH
theorem cx_redo {x now : Nat} {H : List As} {σ : St} (hp : HP (PX x) σ) (hx : XS σ x) (hQ : SQ σ x) (hH : KHis σ x now H) :
    Hx (fX11_redo σ x) (fun σ' v => cW x (s1 x) 0 0 σ σ' ∧ xI [fid 15 14] x σ σ' ∧ KHis σ' x (if now < H.length - 1 then now + 1 else now) H ∧ v = if now < H.length - 1 then nI (H.length - 1 - (now + 1)) else iz (-1)) := by
  obtain ⟨⟨h1, h2, h3, h4⟩, hi⟩ := id hH
  have k0 : sK σ x = 15 + 1 := hx.kd 0 16 (by decide)
  rw [n_fX11_redo, (sm_gI k0).trans (congrArg some h1)]
  refine hx_bs ?_
  rw [(sm_gI k0).trans (congrArg some h2)]
  refine hx_bs (Hx.ce (sm_lt (by omega) (by omega)) (fun c => ?_) (fun c => ?_))
  · refine hx_bs ?_
    rw [sm_add, sm_pI k0]
    have hF : cW x (s1 x) 0 0 σ (wI σ (fid 15 14) x (nI (now + 1))) := cWi hp (by omega) (by omega)
    have hB := cB.of hF (fun r _ hs => by have : r = x := hs; omega) (fun T hT hs => by have : x + T = x := hs; rcases hT with g | g | g <;> omega) hx
    have e2 : gI (wI σ (fid 15 14) x (nI (now + 1))) 15 15 x = some (nI (H.length - 1)) := (sm_gI (σ := wI σ (fid 15 14) x (nI (now + 1))) k0).trans (congrArg some ((sI_wI_f (by decide)).trans h2))
    have e1 : gI (wI σ (fid 15 14) x (nI (now + 1))) 15 14 x = some (nI (now + 1)) := (sm_gI (σ := wI σ (fid 15 14) x (nI (now + 1))) k0).trans (congrArg some sI_wI_eq)
    refine hx_bs ?_
    rw [e2]
    refine hx_bs ?_
    rw [e1]
    refine hx_bs ?_
    rw [sm_sub (by omega)]
    refine Hx.ret ⟨hF, ⟨fun f hf => ?_, fun f => rfl⟩, ?_, by rw [if_pos c]⟩
    · simp only [List.mem_cons, List.not_mem_nil, or_false] at hf
      exact sI_wI_f hf
    · rw [if_pos c]
      exact ⟨⟨sI_wI_eq, (sI_wI_f (by decide)).trans h2, by omega, h4⟩, fun i A hA => (hi i A hA).kB hB hQ⟩
  · refine Hx.ret ⟨cW.rf hp, xI.rf, ?_, by rw [if_neg c]⟩
    rw [if_neg c]
    exact hH
theorem cx_ringAt {x : Nat} {a b c : Int} {rg : List Int} {v : Int32} {σ : St} (hx : XS σ x) (hR : KRef σ x a b c rg) :
    Hx (fX11_ringAt σ x v) (fun σ' w => (∃ i z, v = nI i ∧ rg[i]? = some z ∧ σ' = σ ∧ w = .inr (iz z)) ∨ (¬ ∃ i : Nat, i < rg.length ∧ v = nI i) ∧ σ' = th σ ∧ w = .inl "java/lang/IndexOutOfBoundsException") := by
  obtain ⟨_, _, _, h7, hl, hi⟩ := hR
  have k0 : sK σ x = 15 + 1 := hx.kd 0 16 (by decide)
  have k2 : sK σ (x + 2) = 100 := hx.kd 2 100 (by decide)
  have n2 : sN σ (x + 2) = 30 := hx.nn 2 30 (by decide)
  rw [n_fX11_ringAt]
  by_cases c1 : v < nI 0
  · rw [if_pos c1, n_fX11_ringAt_21]
    refine Hx.ret (Or.inr ⟨?_, rfl, rfl⟩)
    rintro ⟨i, h1, rfl⟩
    rw [sm_lt (by omega) (by omega)] at c1
    omega
  · rw [if_neg c1, (sm_gI k0).trans (congrArg some h7)]
    refine hx_bs ?_
    by_cases c2 : nI rg.length ≤ v
    · rw [if_pos c2, n_fX11_ringAt_21]
      refine Hx.ret (Or.inr ⟨?_, rfl, rfl⟩)
      rintro ⟨i, h1, rfl⟩
      rw [sm_le (by omega) (by omega)] at c2
      omega
    · obtain ⟨i, h1, rfl⟩ := ix_of (by omega) c1 c2
      rw [if_neg c2, show gF σ 15 6 x = some (x + 2) from hx.gf 15 6 0 2 (by decide) (by decide)]
      refine hx_bs ?_
      rw [sm_aln k2 ⟨by omega, by omega⟩, n2]
      refine hx_bs ?_
      rw [if_pos (by rw [sm_lt (by omega) (by omega)]; omega)]
      refine hx_bs ?_
      rw [sm_ld k2 (by omega) (by omega), hi i _ (List.getElem?_eq_getElem h1)]
      exact hx_bs (Hx.ret (Or.inl ⟨i, _, rfl, List.getElem?_eq_getElem h1, rfl, rfl⟩))
/-- the slots -/
def KSl (σ : St) (x : Nat) (qs : List Qv) : Prop := qs.length = 10 ∧ ∀ i q, qs[i]? = some q → KF σ x (sQ σ (x + 8) i) q
theorem cx_isSlot {x : Nat} {v : Int32} {σ : St} (hx : XS σ x) : fX11_isSlot σ x v = some (σ, nI (b01 (∃ r : Nat, r < 10 ∧ v = nI r))) := by
  have k8 : sK σ (x + 8) = 104 := hx.kd 8 104 (by decide)
  have n8 : sN σ (x + 8) = 10 := hx.nn 8 10 (by decide)
  apply hx_eq
  rw [n_fX11_isSlot]
  by_cases c : v < nI 0
  · rw [if_pos c, b01_n]
    · exact Hx.ret ⟨rfl, rfl⟩
    · rintro ⟨r, h1, rfl⟩
      rw [sm_lt (by omega) (by omega)] at c
      omega
  · rw [if_neg c, show gF σ 15 9 x = some (x + 8) from hx.gf 15 9 0 8 (by decide) (by decide)]
    refine hx_bs ?_
    rw [sm_aln k8 ⟨by omega, by omega⟩, n8]
    refine hx_bs ?_
    by_cases c2 : nI 10 ≤ v
    · rw [if_pos c2, b01_n]
      · exact Hx.ret ⟨rfl, rfl⟩
      · rintro ⟨r, h1, rfl⟩
        rw [sm_le (by omega) (by omega)] at c2
        omega
    · rw [if_neg c2, b01_p (ix_of (by omega) c c2)]
      exact Hx.ret ⟨rfl, rfl⟩
theorem cx_slotE {x i : Nat} {σ : St} (hx : XS σ x) (hi : i < 10) : fX11_isSlot σ x (nI i) = some (σ, nI 1) := by
  rw [cx_isSlot hx, b01_p ⟨i, hi, rfl⟩]
theorem KSl.f {x i : Nat} {qs : List Qv} {q : Qv} {σ : St} (h : KSl σ x qs) (hx : XS σ x) (hi : qs[i]? = some q) : gF σ 15 9 x = some (x + 8) ∧ ldQ σ 4 (x + 8) (nI i) = some (sQ σ (x + 8) i) ∧ KF σ x (sQ σ (x + 8) i) q ∧ i < 10 := by
  have hl := (List.getElem?_eq_some_iff.mp hi).1
  have h10 := h.1
  exact ⟨hx.gf 15 9 0 8 (by decide) (by decide), ldQ_ok (ti := 4) (hx.kd 8 104 (by decide)) (by rw [hx.nn 8 10 (by decide)]; omega) (by omega), h.2 i q hi, by omega⟩
theorem KF.sgn {x a : Nat} {q : Qv} {σ : St} (h : KF σ x a q) : gI σ 5 0 a = some (iz q.1) := (sm_gI h.2.2.2.2.1.1).trans (congrArg some h.2.2.2.2.1.2)
theorem cx_keep {x i now : Nat} {qs : List Qv} {q q0 : Qv} {H : List As} {σ : St} (hp : HP (PX x) σ) (hx : XS σ x) (hQ : SQ σ x) (hH : KHis σ x now H) (hs : KSl σ x qs) (hi : qs[i]? = some q0) (hq : KAn σ x q) :
    Hx (fX11_keep σ x (nI i)) (fun σ' w => cW x (s1 (x + 8)) 0 0 σ σ' ∧ xI [] x σ σ' ∧ KHis σ' x now H ∧ KSl σ' x (qs.set i q) ∧ w = .inr (iz q0.1)) := by
  obtain ⟨f9, l1, kf, hi10⟩ := hs.f hx hi
  have k8 : sK σ (x + 8) = 100 + 4 := hx.kd 8 104 (by decide)
  have n8 : sN σ (x + 8) = 10 := hx.nn 8 10 (by decide)
  have hF : cW x (s1 (x + 8)) 0 0 σ (wQ σ (x + 8) i (sF σ (fid 15 8) x)) := cWq hp (by omega) (by omega)
  have hB := cB.of hF (fun r _ hs => by have : r = x + 8 := hs; omega) (fun T hT hs => by have : x + T = x + 8 := hs; rcases hT with g | g | g <;> omega) hx
  rw [n_fX11_keep, sm_ckK (show sK σ x = 16 from hx.kd 0 16 (by decide))]
  refine hx_bs ?_
  rw [cx_slotE hx hi10]
  refine hx_cs (Hx.ce (sm_eq (by omega) (by omega)) (fun c => absurd c (by omega)) (fun _ => ?_))
  rw [f9]
  refine hx_bs ?_
  rw [l1]
  refine hx_bs ?_
  rw [kf.sgn]
  refine hx_bs (hx_bs ?_)
  rw [KAn.f (q := q) hx]
  refine hx_bs ?_
  rw [stQ_ok (ti := 4) k8 (by rw [n8]; exact hi10) (by omega) (Or.inr hq.2.2.2.1.1)]
  refine hx_bs (Hx.ret ⟨hF, xI.of hF hx (fun h => by have : x = x + 8 := h; omega), hH.kW hF hx hB hQ (fun h => by have : x = x + 8 := h; omega) (fun h => by have : x + 17 = x + 8 := h; omega), ⟨by rw [List.length_set]; exact hs.1, fun j q' hj => ?_⟩, rfl⟩)
  rw [List.getElem?_set] at hj
  by_cases c : i = j
  · subst c
    rw [if_pos rfl] at hj
    split at hj
    · cases hj
      rw [sQ_wQ_eq]
      exact KF.kB hq hB hQ
    · cases hj
  · rw [if_neg c] at hj
    rw [sQ_wQ_j (fun e => c e.symm)]
    exact (hs.2 j q' hj).kB hB hQ
theorem cx_take {x i now : Nat} {qs : List Qv} {q0 : Qv} {H : List As} {σ : St} (hp : HP (PX x) σ) (hx : XS σ x) (hQ : SQ σ x) (hH : KHis σ x now H) (hs : KSl σ x qs) (hi : qs[i]? = some q0) :
    Hx (fX11_take σ x (nI i)) (fun σ' w => cW x (s1 x) 0 0 σ σ' ∧ xAn x σ σ' ∧ KHis σ' x now H ∧ KAn σ' x q0 ∧ w = .inr (iz q0.1)) := by
  obtain ⟨f9, l1, kf, hi10⟩ := hs.f hx hi
  obtain ⟨p1, p2, p3, p4, p5, p6⟩ := cx_setAnswer hp hx hQ hH kf
  rw [n_fX11_take, sm_ckK (show sK σ x = 16 from hx.kd 0 16 (by decide))]
  refine hx_bs ?_
  rw [cx_slotE hx hi10]
  refine hx_cs (Hx.ce (sm_eq (by omega) (by omega)) (fun c => absurd c (by omega)) (fun _ => ?_))
  rw [f9]
  refine hx_bs ?_
  rw [l1]
  refine hx_bs ?_
  rw [p1]
  refine hx_bs ?_
  rw [KAn.f (q := q0) (hx.kW p2)]
  refine hx_bs ?_
  rw [KF.sgn p5]
  exact hx_bs (Hx.ret ⟨p2, p3, p4, p5, rfl⟩)
