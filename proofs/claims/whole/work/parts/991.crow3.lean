/-! ===== the class' rows of values: new ones ===== -/
theorem rw_k {σ : St} {L : Nat} : sK (nw 104 L L (nw 11 0 1 σ)) (sz σ) = 11 := by
  show (if sz σ = sz σ + 1 then 104 else if sz σ = sz σ then 11 else sK σ (sz σ)) = 11
  rw [if_neg (by omega), if_pos rfl]
/-- a row's cells as its constructor leaves them -/
def rwN (σ : St) (L : Nat) : St := wF (nw 104 L L (nw 11 0 1 σ)) (fid 10 0) (sz σ) (sz σ + 1)
theorem rwN_W {x L k c : Nat} {σ0 σ : St} (h : cW x s0 k c σ0 σ) : cW x s0 (k + 1 + L) (c + 1 + 1) σ0 (rwN σ L) := by
  have g1 := h.tr (cW.nw (κ := 11) (n := 0) (w := 1) h.hp (by omega)) (fun r _ hr => hr)
  have g2 := g1.tr (cW.nw (κ := 104) (n := L) (w := L) g1.hp (by omega)) (fun r _ hr => hr)
  have e : sK (nw 104 L L (nw 11 0 1 σ)) (sz σ) = 11 := rw_k
  exact g2.wf (Or.inl h.2.1.1) (by rw [e]; omega) (by rw [e]; omega)
theorem cx_rowInit {L : Nat} {v : Int32} {σ : St} (h0 : sz σ ≠ 0) (hL : (if v < nI 0 then nI 0 else v) = nI L) (hl : L ≤ 60000000) : fX6_init (nw 11 0 1 σ) (sz σ) v = some (rwN σ L, ()) := by
  have e0 : ckP (decide (¬ sz σ = 0)) = some () := by rw [decide_eq_true h0]; rfl
  have e : sK (nw 104 L L (nw 11 0 1 σ)) (sz σ) = 10 + 1 := rw_k
  rw [n_fX6_init, e0, hL, nwQ hl]
  show Option.bind (pF (nw 104 L L (nw 11 0 1 σ)) 10 0 (sz σ) (sz σ + 1)) _ = _
  rw [sm_pF e]
  rfl
/-- a row being filled -/
def MkR (x k c : Nat) (σ0 σ : St) (r a L m : Nat) (g : Nat → Nat) : Prop := Mk x 104 k c σ0 σ a L m g ∧ sz σ0 ≤ r ∧ sK σ r = 11 ∧ sF σ (fid 10 0) r = a
theorem MkR.new {x k c L : Nat} {σ0 σ : St} {g : Nat → Nat} (h : cW x s0 k c σ0 σ) : MkR x (k + 1 + L) (c + 2) σ0 (rwN σ L) (sz σ) (sz σ + 1) L 0 g := by
  refine ⟨⟨rwN_W h, by have := h.2.1.1; omega, if_pos rfl, if_pos rfl, fun i hi => absurd hi (Nat.not_lt_zero _)⟩, h.2.1.1, ?_, ?_⟩
  · exact rw_k (L := L)
  · exact if_pos ⟨rfl, rfl⟩
theorem MkR.put {x k c r a L m v : Nat} {σ0 σ : St} {g : Nat → Nat} (h : MkR x k c σ0 σ r a L m g) (hm : m < L) (hL : L < 2147483648) (hv : sK σ v = 6) (hg : v = g m) : stQ σ 4 5 a (nI m) v = some (wQ σ a m v) ∧ MkR x k c σ0 (wQ σ a m v) r a L (m + 1) g := by
  obtain ⟨q1, q2⟩ := Mk.put (ti := 4) (ci := 5) h.1 (by omega) hm hL (Or.inr hv) hg
  exact ⟨q1, q2, h.2⟩
theorem MkR.f {x k c r a L m : Nat} {σ0 σ : St} {g : Nat → Nat} (h : MkR x k c σ0 σ r a L m g) : gF σ 10 0 r = some a ∧ aln σ a = some (nI L) :=
  ⟨(sm_gF h.2.2.1).trans (congrArg some h.2.2.2), (sm_aln h.1.2.2.1 ⟨by omega, by omega⟩).trans (by rw [h.1.2.2.2.1])⟩
theorem MkR.kr {x k c r a : Nat} {σ0 σ : St} {g : Nat → Nat} {vs : List Qv} (h : MkR x k c σ0 σ r a vs.length vs.length g) (hx : XS σ0 x) (hQ : SQ σ0 x) (hl : vs.length ≤ 50) (hv : ∀ i q, vs[i]? = some q → KF σ0 x (g i) q) : KRow σ x r vs := by
  have hz := hx.z
  have hB := h.1.1.toB0 hx
  refine ⟨⟨by have := h.2.1; omega, h.2.2.1, hl⟩, a, h.2.2.2, ⟨by have := h.1.2.1; omega, h.1.2.2.1, h.1.2.2.2.1⟩, fun i q hq => ?_⟩
  rw [h.1.2.2.2.2 i (List.getElem?_eq_some_iff.mp hq).1]
  exact (hv i q hq).kB hB hQ
/-- with one more value -/
theorem cb_rowWith {x b t p : Nat} {q : Qv} {vs : List Qv} {σ : St} (hp0 : HP (PX x) σ) (hx : XS σ x) (hQ : SQ σ x) (hr : KRow σ x b vs) (ht : KF σ x t q) (hp : p ≤ vs.length) (hl : vs.length < 50) :
    Hx (fX6_with σ b t (nI p)) (fun σ' v => cW x s0 60 2 σ σ' ∧ KRow σ' x v (plL vs p 1 q)) := by
  obtain ⟨A, f0, _, _, _, hi0⟩ := hr.f
  have hlen : (plL vs p 1 q).length = vs.length + 1 := plL_len hp (Or.inl rfl)
  have key : ∀ (n m : Nat) (σ1 : St), vs.length + 1 - m < n → m ≤ vs.length + 1 → MkR x (0 + 1 + (vs.length + 1)) (0 + 2) σ σ1 (sz σ) (sz σ + 1) (vs.length + 1) m (plG (sQ σ A) p 1 t) →
      Hx (fX6_with_18 n σ1 b t (nI p) (sz σ) (nI m)) (fun σ' v => cW x s0 60 2 σ σ' ∧ KRow σ' x v (plL vs p 1 q)) := by
    intro n
    induction n with
    | zero => intro m σ1 h; omega
    | succ n ih =>
      intro m σ1 hn hm hM
      have hB := hM.1.1.toB0 hx
      obtain ⟨g1, g2⟩ := hM.f
      obtain ⟨A', f1, a1, _, _, hi⟩ := (hr.kB hB hQ).f
      have hbs := hB.sam hQ hr.1.1 (by rw [hr.1.2.1]; omega) (by rw [hr.1.2.1]; omega) (Or.inl (by rw [hr.1.2.1]; omega))
      have eA : A' = A := by
        have h1 := (sm_gF (ci := 10) (k := 0) (hB.kd hr.1.2.1 (by omega))).symm.trans f1
        have h2 := (sm_gF (ci := 10) (k := 0) hr.1.2.1).symm.trans f0
        rw [hbs.2.1] at h1
        exact (Option.some.inj h1).symm.trans (Option.some.inj h2)
      subst eA
      rw [n_fX6_with_18, g1]
      refine hx_bs ?_
      rw [g2]
      refine hx_bs (Hx.ce (sm_le (by omega) (by omega)) (fun c1 => ?_) (fun c1 => ?_))
      · have : m = vs.length + 1 := by omega
        subst this
        refine Hx.ret ⟨hM.1.1.mo (fun r _ hr => hr) (by omega) (by omega), ?_⟩
        rw [← hlen] at hM
        exact hM.kr hx hQ (by omega) (plL_all (P := fun r e => KF σ x r e) hp (Or.inl rfl) (fun i e he => (hi0 i e he).2) ht)
      · have hput : ∀ v, sK σ1 v = 6 → v = plG (sQ σ A') p 1 t m → Hx (fX6_with_78 (fX6_with_18 n) σ1 b t (nI p) (sz σ) (nI m) (sz σ + 1) (nI m) v) (fun σ' v => cW x s0 60 2 σ σ' ∧ KRow σ' x v (plL vs p 1 q)) := by
          intro v h1 h2
          obtain ⟨q1, q2⟩ := hM.put (by omega) (by omega) h1 h2
          rw [n_fX6_with_78, q1]
          refine hx_bs (hx_nm ?_)
          rw [sm_add]
          exact ih (m + 1) _ (by omega) (by omega) q2
        have h43 : ∀ j, j = (if p < m then m - 1 else m) → Hx (fX6_with_43 (fX6_with_18 n) σ1 b t (nI p) (sz σ) (nI m) (nI j)) (fun σ' v => cW x s0 60 2 σ σ' ∧ KRow σ' x v (plL vs p 1 q)) := by
          intro j hj
          rw [n_fX6_with_43, g1]
          refine hx_bs (Hx.ce (sm_eq (by omega) (by omega)) (fun c2 => ?_) (fun c2 => ?_))
          · rw [n_fX6_with_67]
            refine hput t (hM.1.1.k ht.2.2.2.1.1 (by omega)) ?_
            unfold plG
            rw [if_pos c2]
          · have hjl : j < vs.length := by split at hj <;> omega
            obtain ⟨l1, kf⟩ := hi j _ (List.getElem?_eq_getElem hjl)
            rw [f1]
            refine hx_bs ?_
            rw [a1]
            refine hx_bs ?_
            rw [if_pos (by rw [sm_lt (by omega) (by omega)]; exact hjl)]
            refine hx_bs ?_
            rw [l1]
            refine hx_bs (hput _ kf.2.2.2.1.1 ?_)
            obtain ⟨_, eq⟩ := (show KR σ x 104 A' vs.length from by
              obtain ⟨_, a, e1, e2, _⟩ := hr
              have h2 := (sm_gF (ci := 10) (k := 0) ‹x + 84 < b ∧ sK σ b = 11 ∧ vs.length ≤ 50›.2.1).symm.trans f0
              rw [← Option.some.inj h2, e1]
              exact e2).kB (by omega) hB hQ
            rw [eq]
            unfold plG
            rw [if_neg c2, hj]
            congr 1
            by_cases c3 : p < m
            · rw [if_pos c3, if_pos ⟨rfl, c3⟩]
            · rw [if_neg c3, if_neg (fun h => c3 h.2)]
        refine Hx.ce (sm_le (by omega) (by omega)) (fun c3 => h43 m (by rw [if_neg (by omega)])) (fun c3 => ?_)
        rw [sm_sub (by omega)]
        exact h43 (m - 1) (by rw [if_pos (by omega)])
  have hF1 := cW.nw (κ := 11) (n := 0) (w := 1) hp0 (by omega)
  obtain ⟨A2, f2, a2, _⟩ := (hr.kB (hF1.toB0 hx) hQ).f
  rw [n_fX6_with]
  refine hx_nm (hx_nm ?_)
  rw [f2]
  refine hx_bs ?_
  rw [a2]
  refine hx_bs ?_
  rw [sm_ckK (show sK (nw 11 0 1 σ) (sz σ) = 11 from if_pos rfl)]
  refine hx_bs ?_
  rw [sm_add, cx_rowInit (L := vs.length + 1) (by have := hx.z; omega) (by rw [if_neg (by rw [sm_lt (by omega) (by omega)]; omega)]) (by omega)]
  refine hx_cs ?_
  exact key FU 0 _ (by show vs.length + 1 - 0 < 4294967296; omega) (Nat.zero_le _) (MkR.new (cW.rf hp0))
/-- without a value -/
theorem cb_rowWithout {x b p : Nat} {vs : List Qv} {σ : St} (hp0 : HP (PX x) σ) (hx : XS σ x) (hQ : SQ σ x) (hr : KRow σ x b vs) (hp : p < vs.length) :
    Hx (fX6_without σ b (nI p)) (fun σ' v => cW x s0 60 2 σ σ' ∧ KRow σ' x v (vs.eraseIdx p)) := by
  obtain ⟨A, f0, _, kA0, _, hi0⟩ := hr.f
  have hl := hr.1.2.2
  have hlen : (vs.eraseIdx p).length = vs.length - 1 := ers_len hp
  have key : ∀ (n m : Nat) (σ1 : St), vs.length - 1 - m < n → m ≤ vs.length - 1 → MkR x (0 + 1 + (vs.length - 1)) (0 + 2) σ σ1 (sz σ) (sz σ + 1) (vs.length - 1) m (fun j => sQ σ A (if j < p then j else j + 1)) →
      Hx (fX6_without_17 n σ1 b (nI p) (sz σ) (nI m)) (fun σ' v => cW x s0 60 2 σ σ' ∧ KRow σ' x v (vs.eraseIdx p)) := by
    intro n
    induction n with
    | zero => intro m σ1 h; omega
    | succ n ih =>
      intro m σ1 hn hm hM
      have hB := hM.1.1.toB0 hx
      obtain ⟨g1, g2⟩ := hM.f
      obtain ⟨A', f1, a1, _, _, hi⟩ := (hr.kB hB hQ).f
      have hbs := hB.sam hQ hr.1.1 (by rw [hr.1.2.1]; omega) (by rw [hr.1.2.1]; omega) (Or.inl (by rw [hr.1.2.1]; omega))
      have eA : A' = A := by
        have h1 := (sm_gF (ci := 10) (k := 0) (hB.kd hr.1.2.1 (by omega))).symm.trans f1
        have h2 := (sm_gF (ci := 10) (k := 0) hr.1.2.1).symm.trans f0
        rw [hbs.2.1] at h1
        exact (Option.some.inj h1).symm.trans (Option.some.inj h2)
      subst eA
      rw [n_fX6_without_17, g1]
      refine hx_bs ?_
      rw [g2]
      refine hx_bs (Hx.ce (sm_le (by omega) (by omega)) (fun c1 => ?_) (fun c1 => ?_))
      · have : m = vs.length - 1 := by omega
        subst this
        refine Hx.ret ⟨hM.1.1.mo (fun r _ hr => hr) (by omega) (by omega), ?_⟩
        rw [← hlen] at hM
        refine hM.kr hx hQ (by omega) (fun i e he => ?_)
        rw [ers_get] at he
        exact (hi0 _ e he).2
      · have h47 : ∀ j, j = (if m < p then m else m + 1) → Hx (fX6_without_47 (fX6_without_17 n) σ1 b (nI p) (sz σ) (nI m) (sz σ + 1) (nI m) A' (nI j)) (fun σ' v => cW x s0 60 2 σ σ' ∧ KRow σ' x v (vs.eraseIdx p)) := by
          intro j hj
          have hjl : j < vs.length := by split at hj <;> omega
          obtain ⟨l1, kf⟩ := hi j _ (List.getElem?_eq_getElem hjl)
          obtain ⟨_, eq⟩ := (show KR σ x 104 A' vs.length from by
            obtain ⟨_, a, e1, e2, _⟩ := hr
            have h2 := (sm_gF (ci := 10) (k := 0) ‹x + 84 < b ∧ sK σ b = 11 ∧ vs.length ≤ 50›.2.1).symm.trans f0
            rw [← Option.some.inj h2, e1]
            exact e2).kB (by omega) hB hQ
          obtain ⟨q1, q2⟩ := hM.put (v := sQ σ1 A' j) (by omega) (by omega) kf.2.2.2.1.1 (by rw [eq, hj])
          rw [n_fX6_without_47, l1]
          refine hx_bs ?_
          rw [q1]
          refine hx_bs (hx_nm ?_)
          rw [sm_add]
          exact ih (m + 1) _ (by omega) (by omega) q2
        refine hx_bs ?_
        rw [f1]
        refine hx_bs (Hx.ce (sm_le (by omega) (by omega)) (fun c3 => ?_) (fun c3 => ?_))
        · rw [sm_add]
          exact h47 (m + 1) (by rw [if_neg (by omega)])
        · exact h47 m (by rw [if_pos (by omega)])
  have hF1 := cW.nw (κ := 11) (n := 0) (w := 1) hp0 (by omega)
  obtain ⟨A2, f2, a2, _⟩ := (hr.kB (hF1.toB0 hx) hQ).f
  rw [n_fX6_without]
  refine hx_nm (hx_nm ?_)
  rw [f2]
  refine hx_bs ?_
  rw [a2]
  refine hx_bs ?_
  rw [sm_ckK (show sK (nw 11 0 1 σ) (sz σ) = 11 from if_pos rfl)]
  refine hx_bs ?_
  rw [sm_sub (by omega), cx_rowInit (L := vs.length - 1) (by have := hx.z; omega) (by rw [if_neg (by rw [sm_lt (by omega) (by omega)]; omega)]) (by omega)]
  refine hx_cs ?_
  exact key FU 0 _ (by show vs.length - 1 - 0 < 4294967296; omega) (Nat.zero_le _) (MkR.new (cW.rf hp0))
/-- an empty row -/
theorem cb_rowNew {x : Nat} {σ : St} (hp0 : HP (PX x) σ) (hx : XS σ x) (hQ : SQ σ x) : fX6_init (nw 11 0 1 σ) (sz σ) (nI 0) = some (rwN σ 0, ()) ∧ cW x s0 1 2 σ (rwN σ 0) ∧ KRow (rwN σ 0) x (sz σ) [] := by
  refine ⟨cx_rowInit (by have := hx.z; omega) (by split <;> rfl) (by omega), (rwN_W (cW.rf hp0)).mo (fun _ _ h => h) (by omega) (by omega), ?_⟩
  exact MkR.kr (g := fun _ => 0) (MkR.new (L := 0) (cW.rf hp0)) hx hQ (by show 0 ≤ 50; omega) (fun i q h => by cases h)
