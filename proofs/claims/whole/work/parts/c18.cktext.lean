/-! ===== calls of the one that was built: what is written, read ===== -/
theorem sh_r0 (v : Int32) : v >>> (nI 0 &&& nI 31) = v := by
  apply i32_ext
  have e : (v >>> (nI 0 &&& nI 31)).toBitVec = v.toBitVec.sshiftRight 0 := rfl
  rw [e, BitVec.sshiftRight_zero]
theorem ch_c : ∀ c, c < 128 → ((Int32.toUInt32 (nI c &&& nI 255) % 65536)).toInt32 = nI c ∧ (Int32.toInt8 (nI c)).toInt32 = nI c ∧ ((Int32.toUInt32 (nI c) % 65536)).toInt32 = nI c := by decide +kernel
theorem ch_k : ∀ c, c < 128 → ckC (nI c) = some () := by decide +kernel
theorem sbd_len {σ : St} {b : Nat} {wr : List Nat} (h : KWr σ b wr) : fJ4_length_8abf5 σ b = some (σ, nI wr.length) := by
  obtain ⟨h1, h2, h3, _⟩ := h
  apply hx_eq
  rw [n_fJ4_length_8abf5, sm_ckK h1]
  refine hx_bs ?_
  rw [n_fJ5_length_8abf5, (sm_gI (ci := 1) h1).trans (congrArg some h3)]
  exact Hx.ret ⟨rfl, rfl⟩
theorem sbd_at {σ : St} {b i c : Nat} {wr : List Nat} (h : KWr σ b wr) (hi : wr[i]? = some c) : fJ4_charAt_5068e σ b (nI i) = some (σ, nI c) := by
  obtain ⟨h1, h2, h3, ⟨h4, h5, h6, h7⟩, h8⟩ := h
  obtain ⟨g1, g2⟩ := h8 i c hi
  have hil := (List.getElem?_eq_some_iff.mp hi).1
  have e5 : fJ5_charAt_5068e σ b (nI i) = some (σ, nI c) := by
    apply hx_eq
    rw [n_fJ5_charAt_5068e, (sm_gI (ci := 1) h1).trans (congrArg some h2)]
    refine hx_bs ?_
    rw [sm_gF (ci := 1) h1]
    refine hx_bs ?_
    rw [(sm_gI (ci := 1) h1).trans (congrArg some h3)]
    refine hx_bs ?_
    rw [sm_aln h4 (by omega)]
    refine hx_bs ?_
    rw [sh_r0, if_neg (show ¬ nI (sN σ (sF σ (fid 1 0) b)) < nI wr.length by rw [sm_lt (by omega) (by omega)]; omega)]
    refine hx_nm ?_
    rw [n_fJ0_checkIndex_df160, if_neg (show ¬ nI i < nI 0 by rw [sm_lt (by omega) (by omega)]; omega), if_pos (show nI i < nI wr.length by rw [sm_lt (by omega) (by omega)]; exact hil)]
    refine hx_cs (Hx.cs (fun _ => ?_) (fun z => absurd rfl z))
    have el : ldB σ 1 (sF σ (fid 1 0) b) (nI i) = some (nI c) := by
      unfold ldB
      rw [if_pos ⟨h4, sm_inb (by omega) (by omega)⟩, sm_clamp (by omega), g1]
    rw [el]
    refine hx_bs ?_
    rw [(ch_c c g2).1, ch_k c g2]
    exact hx_bs (Hx.ret ⟨rfl, rfl⟩)
  apply hx_eq
  rw [n_fJ4_charAt_5068e, sm_ckK h1]
  refine hx_bs ?_
  rw [e5]
  refine hx_cs ?_
  rw [ch_k c g2]
  exact hx_bs (Hx.ret ⟨rfl, rfl⟩)
theorem ki_writtenAt {σ : St} {x o : Nat} {s : Kst} {z : Int} (hz : -2147483648 ≤ z ∧ z < 2147483648) (h : KI σ x o s) : Hx (fX11_writtenAt σ x (iz z)) (KO x 0 0 s (if 0 ≤ z ∧ z < s.2.2.2.2.2.1.length then none else some "java/lang/IndexOutOfBoundsException") (atI s.2.2.2.2.2.1 z (fun n => (n : Int))) σ) := by
  obtain ⟨hp, hx, _, _, hQ⟩ := id h.1
  have hW := h.2.2.1.2.2.1
  have hl : s.2.2.2.2.2.1.length ≤ 3000 := by
    have := hW.2.2.2.1
    omega
  have e10 : gF σ 15 10 x = some (x + 9) := hx.gf 15 10 0 9 (by decide) (by decide)
  rw [n_fX11_writtenAt]
  by_cases c0 : 0 ≤ z
  · obtain ⟨i, rfl⟩ := Int.eq_ofNat_of_zero_le c0
    rw [show iz ((i : Nat) : Int) = nI i from (sm_iz i).symm]
    refine Hx.ce (sm_lt (by omega) (by omega)) (fun c => absurd c (by omega)) (fun _ => ?_)
    rw [e10]
    refine hx_bs ?_
    rw [sm_ckK hW.1]
    refine hx_bs ?_
    rw [sbd_len hW]
    refine hx_cs (Hx.ce (sm_lt (by omega) (by omega)) (fun c => ?_) (fun c => ?_))
    · rw [e10]
      refine hx_bs ?_
      rw [sm_ckK hW.1]
      refine hx_bs ?_
      have hi := List.getElem?_eq_getElem c
      rw [sbd_at hW hi]
      refine hx_cs ?_
      rw [ch_k _ (hW.2.2.2.2 i _ hi).2]
      refine hx_bs ?_
      rw [show (if 0 ≤ ((i : Nat) : Int) ∧ ((i : Nat) : Int) < (s.2.2.2.2.2.1.length : Int) then none else some "java/lang/IndexOutOfBoundsException") = (none : Option String) from if_pos (by omega), atI_of hi, sm_iz]
      exact Hx.ret (KO.same h)
    · rw [n_fX11_writtenAt_15, show (if 0 ≤ ((i : Nat) : Int) ∧ ((i : Nat) : Int) < (s.2.2.2.2.2.1.length : Int) then none else some "java/lang/IndexOutOfBoundsException") = some "java/lang/IndexOutOfBoundsException" from if_neg (by omega)]
      exact Hx.ret (KO.bad h)
  · rw [show (if 0 ≤ z ∧ z < (s.2.2.2.2.2.1.length : Int) then none else some "java/lang/IndexOutOfBoundsException") = some "java/lang/IndexOutOfBoundsException" from if_neg (fun q => c0 q.1)]
    refine Hx.ce (show (iz z < nI 0) = (z < 0) by rw [show nI 0 = iz 0 from rfl, iz_lt (by omega) (by omega) (by omega) (by omega)]) (fun _ => ?_) (fun c => absurd c (by omega))
    rw [n_fX11_writtenAt_15]
    exact Hx.ret (KO.bad h)
