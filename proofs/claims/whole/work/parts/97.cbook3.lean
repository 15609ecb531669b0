/-! ===== the class' book: with a thing told, and without one ===== -/
theorem cW.nwc {x a κ : Nat} {σ : St} (hp : HP (PX x) σ) (hk : sK σ a = κ) (hκ : κ ≠ 8) : cW x s0 (sN σ a) 1 σ (nwc a σ) := by
  refine cW.alloc hp (Nat.le_succ _) (fun b hb => ?_) (fun b hb => ?_) (fun c ha h8 => ?_) (Nat.le_refl _) (Nat.le_refl _)
  · have e : b ≠ sz σ := by omega
    exact ⟨if_neg e, if_neg e, fun _ => if_neg e, fun _ => if_neg e, fun _ => if_neg e, fun _ => if_neg e, fun _ => if_neg e⟩
  · have hb2 : sz σ + 1 ≤ b := hb
    show (if b = sz σ then sK σ a else sK σ b) = 0
    rw [if_neg (by omega)]
    exact hp.1.1.2 b (by omega)
  · exfalso
    have h8' : (if c = sz σ then sK σ a else sK σ c) = 8 := h8
    split at h8'
    · omega
    · rw [hp.1.1.2 c (by omega)] at h8'; omega
/-- a row of references copied -/
theorem Mk.copy {x ti k c a : Nat} {σ0 σ : St} (h : cW x s0 k c σ0 σ) (hk : sK σ a = 100 + ti) (h0 : ti ≠ 0) : cln ti a σ = some (nwc a σ) ∧ Mk x (100 + ti) (k + sN σ a) (c + 1) σ0 (nwc a σ) (sz σ) (sN σ a) (sN σ a) (sQ σ a) := by
  refine ⟨if_pos hk, h.tr (cW.nwc h.hp hk (by omega)) (fun r _ hr => hr), h.2.1.1, ?_, if_pos rfl, fun i _ => if_pos rfl⟩
  exact (if_pos rfl).trans hk
theorem Mk.kr {x κ k c a L m : Nat} {σ0 σ : St} {g : Nat → Nat} (h : Mk x κ k c σ0 σ a L m g) (hx : XS σ0 x) : KR σ x κ a L := ⟨by have := hx.z; have := h.2.1; omega, h.2.2.1, h.2.2.2.1⟩
theorem KBk.tl {σ : St} {x b na fa : Nat} {ns : List NE} {fs : List FE} (h : KBk σ x b na fa ns fs) (hw : ∀ e ∈ ns, 0 < e.1 ∧ e.1 < 387420489) (hw2 : ∀ e ∈ fs, 0 < e.1 ∧ e.1 < 387420489) : Tl σ na (ns.map (·.1)) ∧ Tl σ fa (fs.map (·.1)) := by
  obtain ⟨⟨h1, h2, h3⟩, ⟨g1, g2⟩, ⟨k1, k2⟩, n1, f1⟩ := h
  refine ⟨⟨k1.2.1, by rw [List.length_map]; exact k1.2.2, by rw [List.length_map]; omega, fun i w hi => ?_⟩, k2.2.1, by rw [List.length_map]; exact k2.2.2, by rw [List.length_map]; omega, fun i w hi => ?_⟩
  · rw [List.getElem?_map] at hi
    cases he : ns[i]? with
    | none => rw [he] at hi; cases hi
    | some e =>
      rw [he] at hi
      cases hi
      obtain ⟨q1, q2, _⟩ := n1 i e he
      exact ⟨q1.2, q2.1, hw e (List.mem_of_getElem? he)⟩
  · rw [List.getElem?_map] at hi
    cases he : fs[i]? with
    | none => rw [he] at hi; cases hi
    | some e =>
      rw [he] at hi
      cases hi
      obtain ⟨⟨q1, q2, _⟩, _⟩ := f1 i e he
      exact ⟨q1.2, q2.1, hw2 e (List.mem_of_getElem? he)⟩
theorem plL_all {α : Type} {l : List α} {p u t : Nat} {e0 : α} {g : Nat → Nat} {P : Nat → α → Prop} (hp : p ≤ l.length) (hu : u = 1 ∨ u = 0 ∧ p < l.length) (h : ∀ i e, l[i]? = some e → P (g i) e) (ht : P t e0) : ∀ i e, (plL l p u e0)[i]? = some e → P (plG g p u t i) e := by
  intro i e he
  rw [plL_get hp hu] at he
  unfold plG
  by_cases c : i = p
  · rw [if_pos c] at he ⊢
    cases he
    exact ht
  · rw [if_neg c] at he ⊢
    exact h _ _ he
/-- is a word new there -/
noncomputable def isN {α : Type} (f : α → Nat) (l : List α) (p w : Nat) : Nat := b01 ((l.map f)[p]? ≠ some w)
theorem isN_u {α : Type} {f : α → Nat} {l : List α} {p w : Nat} : isN f l p w = 1 ∨ isN f l p w = 0 ∧ p < l.length := by
  unfold isN
  by_cases c : (l.map f)[p]? = some w
  · refine Or.inr ⟨b01_n (fun q => q c), ?_⟩
    have := (List.getElem?_eq_some_iff.mp c).1
    rwa [List.length_map] at this
  · exact Or.inl (b01_p c)
theorem isN_le {α : Type} {f : α → Nat} {l : List α} {p w : Nat} : isN f l p w ≤ 1 := by
  rcases isN_u (f := f) (l := l) (p := p) (w := w) with h | h <;> omega
theorem KBk.tlw {σ : St} {x b na fa : Nat} {ns : List NE} {fs : List FE} (h : KBk σ x b na fa ns fs) : ns.length ≤ 20 ∧ fs.length ≤ 10 := h.1.2.2
/-- a book with a new row of names -/
def KNew (σ σ' : St) (x b : Nat) (ns : List NE) (fs : List FE) : Prop := (∃ na fa, KBk σ' x b na fa ns fs ∧ sz σ ≤ na ∧ na ≠ fa) ∧ sz σ ≤ b ∧ KUs σ' x b (Ths ns fs)
theorem KNew.k {σ σ' : St} {x b : Nat} {ns : List NE} {fs : List FE} (h : KNew σ σ' x b ns fs) : KBook σ' x b ns fs := by
  obtain ⟨⟨na, fa, h1, _⟩, _, h2⟩ := h
  exact ⟨⟨na, fa, h1⟩, h2⟩
/-- a name told comes in -/
theorem cb_withName {x b na fa p t w : Nat} {l : List It} {q : Qv} {ns : List NE} {fs : List FE} {σ : St} (hp0 : HP (PX x) σ) (hx : XS σ x) (hQ : SQ σ x) (hB : KBk σ x b na fa ns fs) (ht : KTold σ x t w 0 l (some q))
    (hw : ∀ e ∈ ns, 0 < e.1 ∧ e.1 < 387420489) (hw2 : ∀ e ∈ fs, 0 < e.1 ∧ e.1 < 387420489) (hw0 : 0 < w ∧ w < 387420489) (hp : Plc (ns.map (·.1)) w p) (hl : ns.length + isN (·.1) ns p w ≤ 20) (hN : Nod (plL ns p (isN (·.1) ns p w) (w, l, q)) fs) (hkw : ∀ e ∈ fs, known e.1 = 0) :
    Hx (fX0_with σ b t) (fun σ' v => cW x s0 100 4 σ σ' ∧ KNew σ σ' x v (plL ns p (isN (·.1) ns p w) (w, l, q)) fs) := by
  have hln := hB.1.2.2
  have hpl := hp.1
  rw [List.length_map] at hpl
  have hu := isN_u (f := fun e : NE => e.1) (l := ns) (p := p) (w := w)
  have hF1 := cW.nw (κ := 5) (n := 0) (w := 4) hp0 (by omega)
  have hB1 := hF1.toB0 hx
  have hK2 := hB.kB hB1 hQ
  have ht1 := ht.kB hB1 hQ
  obtain ⟨hT1, hT2⟩ := hK2.tl hw hw2
  have k5 : sK (nw 5 0 4 σ) (sz σ) = 5 := if_pos rfl
  obtain ⟨_, t2, _, _, _, _⟩ := ht.k
  obtain ⟨_, en⟩ := hB.2.2.1.1.kB (by omega) hB1 hQ
  obtain ⟨_, ef⟩ := hB.2.2.1.2.kB (by omega) hB1 hQ
  rw [n_fX0_with, t2]
  refine hx_bs (Hx.ce (sm_le (by omega) (by omega)) (fun _ => ?_) (fun c1 => by omega))
  rw [n_fX0_with_12]
  refine hx_nm (hx_nm ?_)
  refine Hx.ce (sm_eq (by omega) (by omega)) (fun _ => ?_) (fun c1 => absurd rfl c1)
  rw [(ob_f hK2).1]
  refine hx_bs ?_
  refine Hx.bd (cx_placed (cW.rf hF1.hp) hT1 hp ht1.1.2 ht1.2.1.1 hw0.1 hw0.2) (fun σ3 v h => ?_)
  obtain ⟨rfl, hM⟩ := h
  rw [List.length_map] at hM
  have hF3 := hF1.tr hM.1 (fun r _ hr => hr)
  have hB3 := hF3.toB0 hx
  have hK3 := hB.kB hB3 hQ
  obtain ⟨_, ef3⟩ := hB.2.2.1.2.kB (by omega) hB3 hQ
  rw [n_fX0_with_42]
  refine Hx.ce (sm_eq (by omega) (by omega)) (fun _ => ?_) (fun c1 => absurd rfl c1)
  rw [(ob_f hK3).2.1]
  refine hx_bs ?_
  rw [n_fX0_with_61]
  have hku : ns.length + b01 ((ns.map (·.1))[p]? ≠ some w) = (plL ns p (isN (·.1) ns p w) (w, l, q)).length := (plL_len hpl hu).symm
  have hlen : (plL ns p (isN (·.1) ns p w) (w, l, q)).length ≤ 20 := by rw [plL_len hpl hu]; exact hl
  have hkr := hM.kr (hx.kW hF1)
  rw [hku] at hkr
  have k53 : sK σ3 (sz σ) = 5 := hM.1.k k5 (by omega)
  rw [sm_ckK k53]
  refine hx_bs ?_
  refine Hx.mo (cx_newBook hx hQ hF3 (Nat.le_refl _) k53 ⟨hlen, hln.2⟩ hkr hK3.2.2.1.2 (fun i e he => ?_) (fun i e he => ?_) hN hkw) (fun σ' v h => ?_)
  · rw [hM.2.2.2.2 i (by rw [hku]; exact (List.getElem?_eq_some_iff.mp he).1)]
    refine plL_all (P := fun r e => KTold σ x r e.1 0 e.2.1 (some e.2.2)) hpl hu (fun j e' he' => ?_) ht i e he
    rw [en]
    exact hB.2.2.2.1 j e' he'
  · rw [ef3]
    exact hB.2.2.2.2 i e he
  · obtain ⟨rfl, h1, h2⟩ := h
    have hfz := hp0.z (a := fa) (by rw [hB.2.2.1.2.2.1]; omega)
    refine ⟨h1.mo (fun r _ hr => hr) ?_ ?_, ⟨_, _, h2.1, Nat.le_succ _, ?_⟩, Nat.le_refl _, h2.2⟩
    · rw [hku]; omega
    · omega
    · have h9 : sz σ + 1 ≤ sz (nw 5 0 4 σ) := Nat.le_refl _
      omega
/-- a function told comes in -/
theorem cb_withFun {x b na fa p t w np : Nat} {l : List It} {ns : List NE} {fs : List FE} {σ : St} (hp0 : HP (PX x) σ) (hx : XS σ x) (hQ : SQ σ x) (hB : KBk σ x b na fa ns fs) (ht : KTold σ x t w np l none) (hnp : 0 < np)
    (hw : ∀ e ∈ ns, 0 < e.1 ∧ e.1 < 387420489) (hw2 : ∀ e ∈ fs, 0 < e.1 ∧ e.1 < 387420489) (hw0 : 0 < w ∧ w < 387420489) (hp : Plc (fs.map (·.1)) w p) (hl : fs.length + isN (·.1) fs p w ≤ 10) (hN : Nod ns (plL fs p (isN (·.1) fs p w) (w, np, l))) (hkw : ∀ e ∈ plL fs p (isN (·.1) fs p w) (w, np, l), known e.1 = 0) :
    Hx (fX0_with σ b t) (fun σ' v => cW x s0 100 5 σ σ' ∧ KNew σ σ' x v ns (plL fs p (isN (·.1) fs p w) (w, np, l))) := by
  have hln := hB.1.2.2
  have hpl := hp.1
  rw [List.length_map] at hpl
  have hu := isN_u (f := fun e : FE => e.1) (l := fs) (p := p) (w := w)
  have hF1 := cW.nw (κ := 5) (n := 0) (w := 4) hp0 (by omega)
  have hK1 := hB.kB (hF1.toB0 hx) hQ
  obtain ⟨_, en1⟩ := hB.2.2.1.1.kB (by omega) (hF1.toB0 hx) hQ
  obtain ⟨cl, hM2⟩ := Mk.copy (ti := 8) hF1 hK1.2.2.1.1.2.1 (by omega)
  rw [hK1.2.2.1.1.2.2] at hM2
  have hF2 := hM2.1
  have hF12 := cW.nwc hF1.hp hK1.2.2.1.1.2.1 (by omega)
  have hB2 := hF2.toB0 hx
  have hK2 := hB.kB hB2 hQ
  have ht2 := ht.kB hB2 hQ
  obtain ⟨hT1, hT2⟩ := hK2.tl hw hw2
  have k5 : sK (nw 5 0 4 σ) (sz σ) = 5 := if_pos rfl
  have k52 := hF12.k k5 (by omega)
  obtain ⟨_, t2, _, _, _, _⟩ := ht.k
  have hnp4 := ht.2.2.1.2
  obtain ⟨_, ef⟩ := hB.2.2.1.2.kB (by omega) hB2 hQ
  rw [n_fX0_with, t2]
  refine hx_bs (Hx.ce (sm_le (by omega) (by omega)) (fun c1 => by omega) (fun _ => ?_))
  rw [n_fX0_with_12]
  refine hx_nm (hx_nm ?_)
  refine Hx.ce (sm_eq (by omega) (by omega)) (fun c1 => by omega) (fun _ => ?_)
  rw [(ob_f hK1).1]
  refine hx_bs ?_
  rw [cl]
  refine hx_bs (hx_nm ?_)
  rw [sm_ckK hM2.2.2.1]
  refine hx_bs ?_
  rw [n_fX0_with_42]
  refine Hx.ce (sm_eq (by omega) (by omega)) (fun c1 => by omega) (fun _ => ?_)
  rw [(ob_f hK2).2.1]
  refine hx_bs ?_
  refine Hx.bd (cx_placed (cW.rf hF2.hp) hT2 hp ht2.1.2 ht2.2.1.1 hw0.1 hw0.2) (fun σ3 v h => ?_)
  obtain ⟨rfl, hM⟩ := h
  rw [List.length_map] at hM
  have hF3 := hF2.tr hM.1 (fun r _ hr => hr)
  have kn3 := (hM2.kr hx)
  obtain ⟨kn4, en4⟩ := kn3.kB (by omega) (hM.1.toB0 (hx.kW hF2)) (hQ.st hF2 hx (fun r hr => hr.elim))
  rw [n_fX0_with_61]
  have hku : fs.length + b01 ((fs.map (·.1))[p]? ≠ some w) = (plL fs p (isN (·.1) fs p w) (w, np, l)).length := (plL_len hpl hu).symm
  have hlen : (plL fs p (isN (·.1) fs p w) (w, np, l)).length ≤ 10 := by rw [plL_len hpl hu]; exact hl
  have hkr := hM.kr (hx.kW hF2)
  rw [hku] at hkr
  have k53 : sK σ3 (sz σ) = 5 := hM.1.k k52 (by omega)
  rw [sm_ckK k53]
  refine hx_bs ?_
  refine Hx.mo (cx_newBook hx hQ hF3 (Nat.le_refl _) k53 ⟨hln.1, hlen⟩ kn4 hkr (fun i e he => ?_) (fun i e he => ?_) hN hkw) (fun σ' v h => ?_)
  · rw [en4, hM2.2.2.2.2 i (List.getElem?_eq_some_iff.mp he).1, en1]
    exact hB.2.2.2.1 i e he
  · rw [hM.2.2.2.2 i (by rw [hku]; exact (List.getElem?_eq_some_iff.mp he).1)]
    refine plL_all (P := fun r e => KTold σ x r e.1 e.2.1 e.2.2 none ∧ 0 < e.2.1) hpl hu (fun j e' he' => ?_) ⟨ht, hnp⟩ i e he
    rw [ef]
    exact hB.2.2.2.2 j e' he'
  · obtain ⟨rfl, h1, h2⟩ := h
    refine ⟨h1.mo (fun r _ hr => hr) ?_ ?_, ⟨_, _, h2.1, hM2.2.1, ?_⟩, Nat.le_refl _, h2.2⟩
    · rw [hku]; omega
    · omega
    · have h9 : sz (nwc na (nw 5 0 4 σ)) = sz (nw 5 0 4 σ) + 1 := rfl
      have h8 := hM.2.1
      omega
/-! ===== without ===== -/
theorem cx_left_22 {x k c A p : Nat} {σ0 : St} {ws : List Nat} (hA : Tl σ0 A ws) (hp : p < ws.length) {a : Nat} :
    ∀ (n m : Nat) (σ : St), ws.length - 1 - m < n → m ≤ ws.length - 1 → Mk x 108 k c σ0 σ a (ws.length - 1) m (fun j => sQ σ0 A (if j < p then j else j + 1)) →
    Hx (fX0_left_22 n σ A (nI p) a (nI m)) (fun σ' v => v = a ∧ Mk x 108 k c σ0 σ' a (ws.length - 1) (ws.length - 1) (fun j => sQ σ0 A (if j < p then j else j + 1))) := by
  have hl := hA.2.2.1
  intro n
  induction n with
  | zero => intro m σ h; omega
  | succ n ih =>
    intro m σ hn hm hM
    obtain ⟨hA1, hAq⟩ := hA.s0 hM.1
    have ha : aln σ a = some (nI (ws.length - 1)) := (sm_aln hM.2.2.1 ⟨by omega, by omega⟩).trans (by rw [hM.2.2.2.1])
    rw [n_fX0_left_22, ha]
    refine hx_bs (Hx.ce (sm_le (by omega) (by omega)) (fun c1 => ?_) (fun c1 => ?_))
    · have : m = ws.length - 1 := by omega
      subst this
      exact Hx.ret ⟨rfl, hM⟩
    · have h43 : ∀ j, j = (if m < p then m else m + 1) → Hx (fX0_left_43 (fX0_left_22 n) σ A (nI p) a (nI m) a (nI m) A (nI j)) (fun σ' v => v = a ∧ Mk x 108 k c σ0 σ' a (ws.length - 1) (ws.length - 1) (fun j => sQ σ0 A (if j < p then j else j + 1))) := by
        intro j hj
        have hjl : j < ws.length := by split at hj <;> omega
        obtain ⟨q1, q2⟩ := Mk.put (ti := 8) (ci := 14) (v := sQ σ A j) hM (by omega) (by omega) (by omega) (Or.inr (hA1.2.2.2 j _ (List.getElem?_eq_getElem hjl)).1) (by rw [hAq, hj])
        rw [n_fX0_left_43, ldQ_ok (ti := 8) hA1.1 (by rw [hA1.2.1]; exact hjl) (by omega)]
        refine hx_bs ?_
        rw [q1]
        refine hx_bs (hx_nm ?_)
        rw [sm_add]
        exact ih (m + 1) _ (by omega) (by omega) q2
      refine Hx.ce (sm_le (by omega) (by omega)) (fun c2 => ?_) (fun c2 => ?_)
      · rw [sm_add]
        exact h43 (m + 1) (by rw [if_neg (by omega)])
      · exact h43 m (by rw [if_pos (by omega)])
theorem cx_left {x k c A p : Nat} {σ0 σ : St} {ws : List Nat} (hF : cW x s0 k c σ0 σ) (hA : Tl σ0 A ws) (hp : p < ws.length) :
    Hx (fX0_left σ A (nI p)) (fun σ' v => v = sz σ ∧ Mk x 108 (k + (ws.length - 1)) (c + 1) σ0 σ' v (ws.length - 1) (ws.length - 1) (fun j => sQ σ0 A (if j < p then j else j + 1))) := by
  have hl := hA.2.2.1
  obtain ⟨hA1, hAq⟩ := hA.s0 hF
  have hAl : aln σ A = some (nI ws.length) := (sm_aln hA1.1 ⟨by omega, by omega⟩).trans (by rw [hA1.2.1])
  rw [n_fX0_left]
  refine Hx.ce (sm_lt (by omega) (by omega)) (fun c1 => by omega) (fun _ => ?_)
  rw [hAl]
  refine hx_bs (Hx.ce (sm_lt (by omega) (by omega)) (fun _ => ?_) (fun c1 => absurd hp c1))
  refine hx_bs ?_
  rw [sm_sub (by omega), nwQ (by omega)]
  refine hx_bs (hx_nm ?_)
  refine Hx.mo (cx_left_22 hA hp FU 0 _ (by show ws.length - 1 - 0 < 4294967296; omega) (Nat.zero_le _) (Mk.new hF (by omega))) (fun σ' v h => ?_)
  obtain ⟨rfl, h⟩ := h
  exact ⟨rfl, h⟩
theorem cx_leftN {A p : Nat} {σ : St} {ws : List Nat} (hA : Tl σ A ws) (hp : ws.length ≤ p) (h2 : p < 2147483648) : fX0_left σ A (nI p) = some (σ, A) := by
  have hl := hA.2.2.1
  have hAl : aln σ A = some (nI ws.length) := (sm_aln hA.1 ⟨by omega, by omega⟩).trans (by rw [hA.2.1])
  apply hx_eq
  rw [n_fX0_left]
  refine Hx.ce (sm_lt (by omega) (by omega)) (fun c1 => by omega) (fun _ => ?_)
  rw [hAl]
  refine hx_bs (Hx.ce (sm_lt (by omega) (by omega)) (fun c1 => by omega) (fun _ => ?_))
  exact Hx.ret ⟨rfl, rfl⟩
theorem cx_leftM {A i n : Nat} {σ : St} (hp : i < n) (h2 : n < 2147483648) : fX0_left σ A (nI i - nI n) = some (σ, A) := by
  apply hx_eq
  rw [n_fX0_left, sm_iz i, sm_iz n, iz_sub]
  refine Hx.ce (xm_lt (by omega) (by omega) (by omega)) (fun _ => ?_) (fun c1 => by omega)
  exact Hx.ret ⟨rfl, rfl⟩
