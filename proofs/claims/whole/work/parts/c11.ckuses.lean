/-! ===== calls of the one that was built: uses, users ===== -/
theorem thq_c {A : As} {f : Nat} {v : Int32} (hf : f ≤ 1) : (fixI (if f = 0 then A.1.map (·.1) else A.2.1.map (·.1)) v = none ∧ thq A f v = none) ∨ ∃ k e, fixI (if f = 0 then A.1.map (·.1) else A.2.1.map (·.1)) v = some k ∧ thq A f v = some e ∧ (Ths A.1 A.2.1)[(if f = 0 then 0 else A.1.length) + k]? = some e := by
  by_cases h0 : f = 0
  · subst h0
    rw [if_pos rfl, if_pos rfl]
    cases hx : fixI (A.1.map (·.1)) v with
    | none =>
      refine Or.inl ⟨rfl, ?_⟩
      unfold thq
      rw [if_pos rfl]
      exact fnd_none (f := fun (x : NE) => x.1) hx
    | some k =>
      obtain ⟨e, e1, e2, e3⟩ := fnd_some (f := fun (x : NE) => x.1) (g := fun e => ((0, e.1, e.2.1) : Th)) hx
      have hk := (List.getElem?_eq_some_iff.mp e1).1
      refine Or.inr ⟨k, _, rfl, by unfold thq; rw [if_pos rfl]; exact e3, ?_⟩
      rw [Nat.zero_add, Ths_get, if_pos hk, e1]
      rfl
  · rw [if_neg h0, if_neg h0]
    cases hx : fixI (A.2.1.map (·.1)) v with
    | none =>
      refine Or.inl ⟨rfl, ?_⟩
      unfold thq
      rw [if_neg h0]
      exact fnd_none (f := fun (x : FE) => x.1) hx
    | some k =>
      obtain ⟨e, e1, e2, e3⟩ := fnd_some (f := fun (x : FE) => x.1) (g := fun e => ((1, e.1, e.2.2) : Th)) hx
      have hk := (List.getElem?_eq_some_iff.mp e1).1
      refine Or.inr ⟨k, _, rfl, by unfold thq; rw [if_neg h0]; exact e3, ?_⟩
      rw [Ths_get, if_neg (by omega), Nat.add_sub_cancel_left, e1]
      rfl
theorem ki_uses {σ : St} {x o f g : Nat} {s : Kst} {A : As} {v w : Int32} (hf : f ≤ 1) (hg : g ≤ 1) (h : KI σ x o s) (hA : s.2.2.2.2.2.2.2.2[s.2.2.2.2.2.2.2.1]? = some A) : Hx (fX11_uses σ x v (nI f) w (nI g)) (KV x 0 0 s (usq A f v g w : Nat) σ) := by
  obtain ⟨hp, hx, _, _, hQ⟩ := id h.1
  obtain ⟨t, b, na, fa, pr, hS, f0, hB, hU⟩ := h.2.2.2.2.1.book hx hA
  have hln := hB.1.2.2
  have hTl := Ths_len A.1 A.2.1
  rw [n_fX11_uses, hx.k0 |> sm_ckK]
  refine hx_bs ?_
  rw [pr]
  refine hx_cs ?_
  rw [f0]
  refine hx_bs ?_
  rw [sm_ckK hB.1.2.1]
  refine hx_bs ?_
  rw [cb_find hB hf]
  refine hx_cs ?_
  rw [sm_ckK hB.1.2.1]
  refine hx_bs ?_
  rw [cb_find hB hg]
  refine hx_cs ?_
  rcases thq_c (A := A) (v := v) hf with ⟨e1, e2⟩ | ⟨k, e, e1, e2, e3⟩
  · rw [e1]
    have eu : usq A f v g w = 0 := by unfold usq; rw [e2]
    rw [eu]
    refine Hx.cs (fun _ => Hx.ret (KV.same h)) (fun c => absurd rfl c)
  · have hk := (List.getElem?_eq_some_iff.mp e3).1
    rw [e1]
    have et : thn (some k) (if f = 0 then 0 else A.1.length) = (((if f = 0 then 0 else A.1.length) + k : Nat) : Int) := rfl
    rw [et, ← sm_iz]
    generalize (if f = 0 then 0 else A.1.length) + k = i at *
    refine Hx.cs (fun c => absurd c ?_) (fun _ => ?_)
    · intro q
      have := congrArg Int32.toInt q
      rw [sm_toInt (by omega), iz_toInt (by omega) (by omega)] at this
      omega
    rcases thq_c (A := A) (v := w) hg with ⟨u1, u2⟩ | ⟨k2, e', u1, u2, u3⟩
    · rw [u1]
      have eu : usq A f v g w = 0 := by unfold usq; rw [e2, u2]
      rw [eu]
      refine Hx.cs (fun _ => Hx.ret (KV.same h)) (fun c => absurd rfl c)
    · have hk2 := (List.getElem?_eq_some_iff.mp u3).1
      rw [u1]
      have et2 : thn (some k2) (if g = 0 then 0 else A.1.length) = (((if g = 0 then 0 else A.1.length) + k2 : Nat) : Int) := rfl
      rw [et2, ← sm_iz]
      generalize (if g = 0 then 0 else A.1.length) + k2 = j at *
      refine Hx.cs (fun c => absurd c ?_) (fun _ => ?_)
      · intro q
        have := congrArg Int32.toInt q
        rw [sm_toInt (by omega), iz_toInt (by omega) (by omega)] at this
        omega
      rw [sm_ckK hB.1.2.1]
      refine hx_bs ?_
      rw [cb_isUsing hU hB.1.2.1 (by omega) e3 (by omega)]
      refine hx_cs ?_
      have er : rS (Ths A.1 A.2.1) e.2.2 j ↔ Rch (Ths A.1 A.2.1) e.2.2 e' := by
        unfold rS
        rw [u3]
        exact ⟨fun ⟨z, hz, hr⟩ => by cases hz; exact hr, fun hr => ⟨e', rfl, hr⟩⟩
      have eu : usq A f v g w = b01 (Rch (Ths A.1 A.2.1) e.2.2 e') := by unfold usq; rw [e2, u2]
      rw [eu]
      by_cases c : Rch (Ths A.1 A.2.1) e.2.2 e'
      · rw [b01_p c, b01_p (er.mpr c), if_neg (by decide)]
        exact Hx.ret (KV.same h)
      · rw [b01_n c, b01_n (fun q => c (er.mp q)), if_pos rfl]
        exact Hx.ret (KV.same h)
theorem ki_users {σ : St} {x o f : Nat} {s : Kst} {A : As} {v : Int32} (hf : f ≤ 1) (h : KI σ x o s) (hA : s.2.2.2.2.2.2.2.2[s.2.2.2.2.2.2.2.1]? = some A) : Hx (fX11_users σ x v (nI f)) (KV x 0 0 s (usQ A f v : Nat) σ) := by
  obtain ⟨hp, hx, _, _, hQ⟩ := id h.1
  obtain ⟨t, b, na, fa, pr, hS, f0, hB, hU⟩ := h.2.2.2.2.1.book hx hA
  have hln := hB.1.2.2
  have hTl := Ths_len A.1 A.2.1
  rw [n_fX11_users, hx.k0 |> sm_ckK]
  refine hx_bs ?_
  rw [pr]
  refine hx_cs ?_
  rw [f0]
  refine hx_bs ?_
  rw [sm_ckK hB.1.2.1]
  refine hx_bs ?_
  rw [cb_find hB hf]
  refine hx_cs ?_
  rw [sm_ckK hB.1.2.1]
  refine hx_bs ?_
  rcases thq_c (A := A) (v := v) hf with ⟨e1, e2⟩ | ⟨k, e, e1, e2, e3⟩
  · rw [e1, show thn none (if f = 0 then 0 else A.1.length) = -1 from rfl, cb_usersM hB]
    refine hx_cs ?_
    rw [cn_bitCount (by omega)]
    refine hx_cs ?_
    have eu : usQ A f v = 0 := by unfold usQ; rw [e2]
    rw [eu]
    exact Hx.ret (KV.same h)
  · have hk := (List.getElem?_eq_some_iff.mp e3).1
    rw [e1]
    have et : thn (some k) (if f = 0 then 0 else A.1.length) = (((if f = 0 then 0 else A.1.length) + k : Nat) : Int) := rfl
    rw [et, ← sm_iz]
    generalize (if f = 0 then 0 else A.1.length) + k = i at *
    obtain ⟨u, u1, u2⟩ := cb_usersOf (j := i) hB hU (by omega)
    rw [u1]
    refine hx_cs ?_
    have eu : u = nI u.toBitVec.toNat := by
      apply i32_ext
      show u.toBitVec = BitVec.ofNat 32 _
      rw [BitVec.ofNat_toNat]
      simp
    rw [eu, cn_bitCount u.toBitVec.isLt]
    refine hx_cs ?_
    have ec : pct 32 u.toBitVec.toNat = usQ A f v := by
      have e5 : usQ A f v = usn (Ths A.1 A.2.1) A.1 e := by unfold usQ; rw [e2]
      rw [e5]
      unfold usn
      refine pct_fil _ 32 _ A.1 (by omega) (fun j hj => ?_)
      have hb := u2 j hj
      rw [show u.toBitVec.toNat.testBit j = u.toBitVec.getLsbD j from rfl, hb]
      constructor
      · rintro ⟨g1, e6, g2, z, g3, g4⟩
        rw [Ths_get, if_pos g1] at g2
        have g5 : A.1[j]? = some A.1[j] := List.getElem?_eq_getElem g1
        rw [g5] at g2
        have g2 : some ((0, A.1[j].1, A.1[j].2.1) : Th) = some e6 := g2
        cases g2
        rw [e3] at g3
        cases g3
        exact ⟨_, g5, @decide_eq_true _ (Classical.propDecidable _) g4⟩
      · rintro ⟨y, g1, g2⟩
        have hj2 := (List.getElem?_eq_some_iff.mp g1).1
        refine ⟨hj2, (0, y.1, y.2.1), ?_, e, e3, @of_decide_eq_true _ (Classical.propDecidable _) g2⟩
        rw [Ths_get, if_pos hj2, g1]
        rfl
    rw [ec, sm_iz]
    exact Hx.ret (KV.same h)
