/-! ===== the class' calls: rows ===== -/
/-- the answer -/
def KAn (σ : St) (x : Nat) (q : Qv) : Prop := KF σ x (sF σ (fid 15 8) x) q
theorem KAn.f {σ : St} {x : Nat} {q : Qv} (hx : XS σ x) : gF σ 15 8 x = some (sF σ (fid 15 8) x) := sm_gF (show sK σ x = 15 + 1 from hx.kd 0 16 (by decide))
theorem KAn.kB {x : Nat} {q : Qv} {L : List Nat} {σ σ' : St} (h : KAn σ x q) (hI : xI L x σ σ') (hB : cB x σ σ') (hQ : SQ σ x) : KAn σ' x q := by
  unfold KAn
  rw [hI.2]
  exact KF.kB h hB hQ
theorem cx_isRow {x now : Nat} {H : List As} {A : As} {v : Int32} {σ : St} (hx : XS σ x) (hH : KHis σ x now H) (hA : H[now]? = some A) : fX11_isRow σ x v = some (σ, nI (b01 (∃ r : Nat, r < 3 ∧ v = nI r))) := by
  obtain ⟨pr, hS⟩ := hH.present hx hA
  obtain ⟨b, ra, f0, f1, a1, _, _, _, _⟩ := hS.f
  have hz1 := Int32.toInt_lt v
  have hz2 := Int32.le_toInt v
  apply hx_eq
  rw [n_fX11_isRow]
  by_cases c : v < nI 0
  · rw [if_pos c, b01_n]
    · exact Hx.ret ⟨rfl, rfl⟩
    · rintro ⟨r, h1, rfl⟩
      rw [sm_lt (by omega) (by omega)] at c
      omega
  · rw [if_neg c, sm_ckK (show sK σ x = 16 from hx.kd 0 16 (by decide))]
    refine hx_bs ?_
    rw [pr]
    refine hx_cs ?_
    rw [f1]
    refine hx_bs ?_
    rw [a1]
    refine hx_bs ?_
    by_cases c2 : nI 3 ≤ v
    · rw [if_pos c2, b01_n]
      · exact Hx.ret ⟨rfl, rfl⟩
      · rintro ⟨r, h1, rfl⟩
        rw [sm_le (by omega) (by omega)] at c2
        omega
    · rw [if_neg c2, b01_p]
      · exact Hx.ret ⟨rfl, rfl⟩
      · have e := iz_self v
        rw [e, xm_lt (by omega) (by omega) (by omega)] at c
        rw [e, mx_le (by omega) (by omega) (by omega)] at c2
        refine ⟨v.toInt.toNat, by omega, ?_⟩
        rw [sm_iz, Int.toNat_of_nonneg (by omega)]
        exact e
/-- the row of the present state -/
theorem KHis.row {x now r : Nat} {H : List As} {A : As} {vs : List Qv} {σ : St} (h : KHis σ x now H) (hx : XS σ x) (hA : H[now]? = some A) (hr : A.2.2[r]? = some vs) : ∃ s ra, fX11_present σ x = some (σ, s) ∧ KSt σ x s A ∧ gF σ 11 1 s = some ra ∧ ldQ σ 5 ra (nI r) = some (sQ σ ra r) ∧ KRow σ x (sQ σ ra r) vs ∧ ckK σ 12 s = some () := by
  obtain ⟨pr, hS⟩ := h.present hx hA
  obtain ⟨b, ra, f0, f1, a1, _, _, _, _, hi⟩ := hS.f
  exact ⟨_, ra, pr, hS, f1, (hi r vs hr).1, (hi r vs hr).2, sm_ckK hS.1.2.1⟩
/-- what a change of a row may write -/
def sRw (x r : Nat) : Prop := r = x ∨ r = x + 17 ∨ r = x + 37 ∨ r = x + 39
theorem sRw_B {x k c : Nat} {σ σ' : St} (hF : cW x (sRw x) k c σ σ') (hx : XS σ x) : cB x σ σ' :=
  cB.of hF (fun r _ hs => by rcases hs with h | h | h | h <;> omega) (fun T hT hs => by rcases hs with h | h | h | h <;> rcases hT with g | g | g <;> omega) hx
theorem sRw_Q {x k c : Nat} {σ σ' : St} (hF : cW x (sRw x) k c σ σ') (hx : XS σ x) (hQ : SQ σ x) : SQ σ' x := hQ.st hF hx (fun r hr => by rcases hr with h | h | h | h <;> omega)
/-- a row is changed -/
theorem cx_setRow {x now r rw_ : Nat} {H : List As} {A : As} {vs : List Qv} {σ : St} (hp : HP (PX x) σ) (hx : XS σ x) (hQ : SQ σ x) (hH : KHis σ x now H) (hA : H[now]? = some A) (hr : r < 3) (hR : KRow σ x rw_ vs) {β : Type} {k : St → Option (St × β)} {Q : St → β → Prop}
    (hk : ∀ σ', cW x (sRw x) 5 2 σ σ' → xI [fid 15 14, fid 15 15] x σ σ' → KHis σ' x (if now + 1 < 21 then now + 1 else 20) (chg now H (A.1, A.2.1, A.2.2.set r vs)) → Hx (k σ') Q) :
    Hx (Option.bind (ckK σ 16 x) fun _ => cb (fX11_present σ x) fun σ22 a23 => Option.bind (ckK σ22 12 a23) fun _ => cb (fX7_withRow σ22 a23 (nI r) rw_) fun σ25 a26 => Option.bind (ckK σ25 16 x) fun _ => cb (fX11_change σ25 x a26) fun σ28 _ => k σ28) Q := by
  obtain ⟨pr, hS⟩ := hH.present hx hA
  rw [sm_ckK (show sK σ x = 16 from hx.kd 0 16 (by decide))]
  refine hx_bs ?_
  rw [pr]
  refine hx_cs ?_
  rw [sm_ckK hS.1.2.1]
  refine hx_bs ?_
  refine Hx.bd (cb_withRow hp hx hQ hS hR hr) (fun σ2 s2 h => ?_)
  obtain ⟨hF, hS2⟩ := h
  have hx2 := hx.kW hF
  have hQ2 := hQ.st hF hx (fun r hr => hr.elim)
  have hH2 := hH.kW hF hx (hF.toB0 hx) hQ (fun h => h) (fun h => h)
  rw [sm_ckK (show sK σ2 x = 16 from hx2.kd 0 16 (by decide))]
  refine hx_bs ?_
  refine Hx.bd (cx_change hF.hp hx2 hQ2 hH2 hS2) (fun σ3 _ h => ?_)
  obtain ⟨g1, g2, g3⟩ := h
  refine hk σ3 ((hF.mo (S' := sRw x) (fun r _ h => h.elim) (Nat.le_refl _) (Nat.le_refl _)).tr0 g1 (fun r _ hr => by rcases hr with h | h; exact Or.inl h; exact Or.inr (Or.inl h))) ?_ g3
  exact (xI.of (L := []) hF hx (fun h => h)).tr g2 (fun f h => by cases h) (fun f h => h)
theorem s37_P {x k c : Nat} {σ σ' : St} (hF : cW x (s2 (x + 37) (x + 39)) k c σ σ') : cW x (sRw x) k c σ σ' := hF.mo (fun r _ hr => by rcases hr with h | h; exact Or.inr (Or.inr (Or.inl h)); exact Or.inr (Or.inr (Or.inr h))) (Nat.le_refl _) (Nat.le_refl _)
/-- put -/
theorem cx_put {x now r : Nat} {H : List As} {A : As} {vs : List Qv} {q : Qv} {σ : St} (hp : HP (PX x) σ) (hx : XS σ x) (hQ : SQ σ x) (hH : KHis σ x now H) (hA : H[now]? = some A) (hr : r < 3) (hvs : A.2.2[r]? = some vs) (hq : KAn σ x q) :
    Hx (fX11_put σ x (nI r)) (fun σ' v => if vs.length < 50 then cW x (sRw x) 65 4 σ σ' ∧ xI [fid 15 14, fid 15 15] x σ σ' ∧ KHis σ' x (if now + 1 < 21 then now + 1 else 20) (chg now H (A.1, A.2.1, A.2.2.set r (plL vs (cbl q vs) 1 q))) ∧ v = .inr (nI (vs.length + 1)) else σ' = th σ ∧ v = .inl "java/lang/IllegalStateException") := by
  obtain ⟨s, ra, pr, hS, f1, l1, hR, ck⟩ := hH.row hx hA hvs
  obtain ⟨a, g1, g2, _, _, _⟩ := hR.f
  have hl := hR.1.2.2
  rw [n_fX11_put, sm_ckK (show sK σ x = 16 from hx.kd 0 16 (by decide))]
  refine hx_bs ?_
  rw [cx_isRow hx hH hA]
  refine hx_cs (Hx.ce b01_0 (fun c => absurd ⟨r, hr, rfl⟩ c) (fun _ => ?_))
  rw [sm_ckK (show sK σ x = 16 from hx.kd 0 16 (by decide))]
  refine hx_bs ?_
  rw [pr]
  refine hx_cs ?_
  rw [f1]
  refine hx_bs ?_
  rw [l1]
  refine hx_bs ?_
  rw [g1]
  refine hx_bs ?_
  rw [g2]
  refine hx_bs (Hx.ce (sm_lt (by omega) (by omega)) (fun c => ?_) (fun c => ?_))
  · rw [KAn.f (q := q) hx]
    refine hx_bs ?_
    rw [show gF σ 15 16 x = some (x + 18) from hx.gf 15 16 0 18 (by decide) (by decide)]
    refine hx_bs (hx_bs ?_)
    rw [hx.ck 18 10 (by decide)]
    refine hx_bs ?_
    refine Hx.bd (cr_countBelow hp hx hQ hR hq) (fun σ1 v h => ?_)
    obtain ⟨hF1, rfl⟩ := h
    have hP1 := s37_P hF1
    have cb1 := sRw_B hP1 hx
    have hx1 := hx.kW hF1
    have hQ1 := sRw_Q hP1 hx hQ
    have hR1 := hR.kB cb1 hQ
    have hq1 := KF.kB hq cb1 hQ
    have hH1 := hH.kW hF1 hx cb1 hQ (by rintro (h | h) <;> omega) (by rintro (h | h) <;> omega)
    have hI1 : xI [] x σ σ1 := xI.of hF1 hx (by rintro (h | h) <;> omega)
    rw [sm_ckK hR1.1.2.1]
    refine hx_bs ?_
    refine Hx.bd (cb_rowWith hF1.hp hx1 hQ1 hR1 hq1 (cbl_le q vs) c) (fun σ2 r2 h => ?_)
    obtain ⟨hF2, hR2⟩ := h
    have cb2 := hF2.toB0 hx1
    have hx2 := hx1.kW hF2
    have hQ2 := hQ1.st hF2 hx1 (fun r hr => hr.elim)
    have hH2 := hH1.kW hF2 hx1 cb2 hQ1 (fun h => h) (fun h => h)
    have hI2 : xI [] x σ1 σ2 := xI.of hF2 hx1 (fun h => h)
    have hP2 := hP1.tr hF2 (fun r _ h => h.elim)
    refine cx_setRow hF2.hp hx2 hQ2 hH2 hA hr hR2 (fun σ3 hF3 hI3 hH3 => ?_)
    have hR3 := hR2.kB (sRw_B hF3 hx2) hQ2
    obtain ⟨a3, k1, k2, _, _, _⟩ := hR3.f
    rw [k1]
    refine hx_bs ?_
    rw [k2, plL_len (cbl_le q vs) (Or.inl rfl)]
    refine hx_bs (Hx.ret ?_)
    rw [if_pos c]
    refine ⟨(hP2.tr hF3 (fun r _ hr => hr)).mo (fun r _ hr => hr) (by omega) (by omega), ?_, hH3, rfl⟩
    exact (hI1.tr (L := []) hI2 (fun f h => h) (fun f h => h)).tr hI3 (fun f h => by cases h) (fun f h => h)
  · refine Hx.ret ?_
    rw [if_neg c]
    exact ⟨rfl, rfl⟩
