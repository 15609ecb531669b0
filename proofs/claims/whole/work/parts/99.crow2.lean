/-! ===== the class' rows of values ===== -/
/-- a row of values that is kept -/
def KRow (σ : St) (x r : Nat) (vs : List Qv) : Prop := (x + 84 < r ∧ sK σ r = 11 ∧ vs.length ≤ 50) ∧ ∃ a, sF σ (fid 10 0) r = a ∧ KR σ x 104 a vs.length ∧ ∀ i q, vs[i]? = some q → KF σ x (sQ σ a i) q
theorem KRow.kB {x r : Nat} {vs : List Qv} {σ σ' : St} (h : KRow σ x r vs) (hR : cB x σ σ') (hQ : SQ σ x) : KRow σ' x r vs := by
  obtain ⟨⟨h1, h2, h3⟩, a, g1, k1, hi⟩ := h
  have hs := hR.sam hQ h1 (by omega) (by omega) (Or.inl (by omega))
  obtain ⟨q1, e1⟩ := k1.kB (by omega) hR hQ
  refine ⟨⟨h1, hR.kd h2 (by omega), h3⟩, a, by rw [hs.2.1]; exact g1, q1, fun i q hq => ?_⟩
  rw [e1]
  exact (hi i q hq).kB hR hQ
theorem KRow.f {σ : St} {x r : Nat} {vs : List Qv} (h : KRow σ x r vs) : ∃ a, gF σ 10 0 r = some a ∧ aln σ a = some (nI vs.length) ∧ sK σ a = 104 ∧ sN σ a = vs.length ∧ ∀ i q, vs[i]? = some q → ldQ σ 4 a (nI i) = some (sQ σ a i) ∧ KF σ x (sQ σ a i) q := by
  obtain ⟨⟨h1, h2, h3⟩, a, g1, k1, hi⟩ := h
  refine ⟨a, (sm_gF h2).trans (congrArg some g1), (sm_aln k1.2.1 ⟨by omega, by omega⟩).trans (by rw [k1.2.2]), k1.2.1, k1.2.2, fun i q hq => ?_⟩
  have hl := (List.getElem?_eq_some_iff.mp hq).1
  exact ⟨ldQ_ok (ti := 4) k1.2.1 (by rw [k1.2.2]; exact hl) (by omega), hi i q hq⟩
/-- how many values from the first on are smaller -/
def cbl (q : Qv) : List Qv → Nat
  | [] => 0
  | v :: vs => if cmpq v q < 0 then cbl q vs + 1 else 0
/-- how many values from the first on are the same -/
def csm (q : Qv) : List Qv → Nat
  | [] => 0
  | v :: vs => if v = q then csm q vs + 1 else 0
theorem cbl_le (q : Qv) : ∀ vs : List Qv, cbl q vs ≤ vs.length
  | [] => Nat.le_refl _
  | v :: vs => by
    have := cbl_le q vs
    unfold cbl
    rw [List.length_cons]
    split <;> omega
theorem csm_le (q : Qv) : ∀ vs : List Qv, csm q vs ≤ vs.length
  | [] => Nat.le_refl _
  | v :: vs => by
    have := csm_le q vs
    unfold csm
    rw [List.length_cons]
    split <;> omega
theorem cbl_drop {q : Qv} {vs : List Qv} {k : Nat} (h : k < vs.length) : cbl q (vs.drop k) = if cmpq vs[k] q < 0 then cbl q (vs.drop (k + 1)) + 1 else 0 := by
  rw [List.drop_eq_getElem_cons h]
  rfl
theorem csm_drop {q : Qv} {vs : List Qv} {k : Nat} (h : k < vs.length) : csm q (vs.drop k) = if vs[k] = q then csm q (vs.drop (k + 1)) + 1 else 0 := by
  rw [List.drop_eq_getElem_cons h]
  rfl
theorem KF.s40 {σ : St} {x a : Nat} {q : Qv} (h : KF σ x a q) : x + 40 < a ∨ a + 3 < x + 19 := by
  rcases h.1 with h | h <;> omega
theorem KF.ofs {σ σ' : St} {x a : Nat} {q : Qv} {S : Nat → Prop} {k c : Nat} (h : KF σ x a q) (hF : cW x S k c σ σ') (hx : XS σ x) (hQ : SQ σ x) (hS : ∀ r, r < sz σ → S r → x ≤ r ∧ r ≤ x + 84 ∧ (r < x + 3 ∨ x + 7 < r)) (hq : ∀ T, tMu T → ¬ S (x + T)) : KF σ' x a q := h.kB (cB.of hF hS hq hx) hQ
theorem cmpq_b {p q : Qv} (hp : qok p) (hq : qok q) : -1 ≤ cmpq p q ∧ cmpq p q ≤ 1 := by
  obtain ⟨h1, _⟩ := hp
  have h3 : ∀ a b : Nat, -1 ≤ cmp3 a b ∧ cmp3 a b ≤ 1 := by
    intro a b
    unfold cmp3
    split
    · omega
    · split <;> omega
  unfold cmpq
  split
  · have := h3 (p.2.1 * q.2.2) (q.2.1 * p.2.2)
    rcases h1 with e | e | e <;> rw [e] <;> omega
  · split <;> omega
theorem sml_m4 {y : Nat} (h : sml y 4) : sml y 200 := Nat.lt_of_lt_of_le h (bp_mono (by omega))
/-- counts what is smaller -/
theorem cr_countBelow {x r a : Nat} {q : Qv} {vs : List Qv} {σ : St} (hp : HP (PX x) σ) (hx : XS σ x) (hQ : SQ σ x) (hr : KRow σ x r vs) (ha : KF σ x a q) :
    Hx (fX5_countBelow σ (x + 18) r a) (fun σ' v => cW x (s2 (x + 37) (x + 39)) 0 0 σ σ' ∧ v = nI (cbl q vs)) := by
  have hl := hr.1.2.2
  have key : ∀ (n k : Nat) (σ1 : St), vs.length - k < n → k ≤ vs.length → cW x (s2 (x + 37) (x + 39)) 0 0 σ σ1 → Hx (fX5_countBelow_2 n σ1 (x + 18) r a (nI k)) (fun σ' v => cW x (s2 (x + 37) (x + 39)) 0 0 σ σ' ∧ v = nI (k + cbl q (vs.drop k))) := by
    intro n
    induction n with
    | zero => intro k σ1 h; omega
    | succ n ih =>
      intro k σ1 hn hk hF
      have hB := cB.of hF (fun r _ hs => by rcases hs with h | h <;> omega) (fun T hT hs => by rcases hs with h | h <;> rcases hT with g | g | g <;> omega) hx
      have hx1 := hx.kW hF
      obtain ⟨A, f1, a1, _, _, hi⟩ := (hr.kB hB hQ).f
      have ha1 := ha.kB hB hQ
      rw [n_fX5_countBelow_2, f1]
      refine hx_bs ?_
      rw [a1]
      refine hx_bs (Hx.ce (sm_le (by omega) (by omega)) (fun c1 => ?_) (fun c1 => ?_))
      · have : k = vs.length := by omega
        subst this
        rw [List.drop_length]
        exact Hx.ret ⟨hF, rfl⟩
      · have hkl : k < vs.length := by omega
        obtain ⟨l1, kf⟩ := hi k _ (List.getElem?_eq_getElem hkl)
        refine hx_bs ?_
        rw [l1]
        refine hx_bs ?_
        rw [hx1.ck 18 10 (by decide)]
        refine hx_bs ?_
        have q1 := kf.2.2.1
        have q2 := ha1.2.2.1
        refine Hx.bd (cr_order hF.hp hx1 kf.2.2.2 ha1.2.2.2 kf.s40 ha1.s40 (sml_m4 q1.n4.1) (sml_m4 q1.n4.2) (sml_m4 q2.n4.1) (sml_m4 q2.n4.2) q1.sg q2.sg) (fun σ2 v h => ?_)
        obtain ⟨hF2, hv⟩ := h
        have hv2 : v = iz (cmpq vs[k] q) := hv
        subst hv2
        have hF3 := hF.tr0 hF2 (fun r _ hr => hr)
        have hb := cmpq_b q1 q2
        rw [cbl_drop hkl]
        refine Hx.ce (mx_le (by omega) (by omega) (by omega)) (fun c2 => ?_) (fun c2 => ?_)
        · rw [if_neg (show ¬ cmpq vs[k] q < 0 from by have : ((0 : Nat) : Int) ≤ cmpq vs[k] q := c2; omega)]
          exact Hx.ret ⟨hF3, rfl⟩
        · rw [if_pos (show cmpq vs[k] q < 0 from by have : ¬ ((0 : Nat) : Int) ≤ cmpq vs[k] q := c2; omega)]
          refine hx_nm ?_
          rw [sm_add]
          refine Hx.mo (ih (k + 1) _ (by omega) hkl hF3) (fun σ' v h => ⟨h.1, ?_⟩)
          rw [h.2]
          congr 1
          omega
  rw [n_fX5_countBelow]
  refine Hx.mo (key FU 0 σ (by show vs.length - 0 < 4294967296; omega) (Nat.zero_le _) (cW.rf hp)) (fun σ' v h => ⟨h.1, ?_⟩)
  rw [h.2, Nat.zero_add]
  rfl
/-- counts what is the same -/
theorem cb_countSame {x r a p : Nat} {q : Qv} {vs : List Qv} {σ : St} (hr : KRow σ x r vs) (ha : KF σ x a q) (hp : p ≤ vs.length) : fX6_countSame σ r (nI p) a = some (σ, nI (csm q (vs.drop p))) := by
  have hl := hr.1.2.2
  obtain ⟨A, f1, a1, _, _, hi⟩ := hr.f
  have key : ∀ (n k : Nat), vs.length - (p + k) < n → p + k ≤ vs.length → fX6_countSame_2 n σ r (nI p) a (nI k) = some (σ, nI (k + csm q (vs.drop (p + k)))) := by
    intro n
    induction n with
    | zero => intro k h; omega
    | succ n ih =>
      intro k hn hk
      apply hx_eq
      rw [n_fX6_countSame_2]
      refine Hx.ce (sm_lt (by omega) (by omega)) (fun c1 => by omega) (fun _ => ?_)
      rw [f1]
      refine hx_bs ?_
      rw [a1]
      refine hx_bs ?_
      rw [sm_add]
      refine Hx.ce (sm_le (by omega) (by omega)) (fun c1 => ?_) (fun c1 => ?_)
      · have : p + k = vs.length := by omega
        rw [this, List.drop_length]
        exact Hx.ret ⟨rfl, rfl⟩
      · have hkl : p + k < vs.length := by omega
        obtain ⟨l1, kf⟩ := hi (p + k) _ (List.getElem?_eq_getElem hkl)
        refine hx_bs ?_
        rw [l1]
        refine hx_bs ?_
        rw [sm_ckK kf.2.2.2.1.1]
        refine hx_bs ?_
        rw [cf_isSame kf.2.2.2 ha.2.2.2 kf.2.2.1.sg ha.2.2.1.sg, csm_drop hkl]
        refine hx_cs (Hx.ce nb0 (fun c2 => ?_) (fun c2 => ?_))
        · rw [if_neg (fun e => c2 (by rw [e]; exact ⟨rfl, rfl, rfl⟩))]
          exact Hx.ret ⟨rfl, rfl⟩
        · have e : vs[p + k] = q := by
            obtain ⟨e1, e2, e3⟩ := Classical.not_not.mp c2
            exact Prod.ext e1 (Prod.ext e2 e3)
          rw [if_pos e]
          refine hx_nm ?_
          rw [sm_add, ih (k + 1) (by omega) (by omega)]
          refine Hx.ret ⟨rfl, ?_⟩
          congr 1
          rw [show p + (k + 1) = p + k + 1 by omega]
          omega
  rw [n_fX6_countSame, key FU 0 (by show vs.length - (p + 0) < 4294967296; omega) hp, Nat.zero_add]
  rfl
