/-! ===== the class' book: what its nodes lead to ===== -/
theorem HP.z {x : Nat} {σ : St} (hp : HP (PX x) σ) {a : Nat} (h : sK σ a ≠ 0) : a < sz σ := hp.1.lt h
/-- a new cell -/
theorem cW.nw {x κ n w : Nat} {σ : St} (hp : HP (PX x) σ) (hκ : κ ≠ 8) : cW x s0 w 1 σ (nw κ n w σ) := by
  refine cW.alloc hp (Nat.le_succ _) (fun b hb => ?_) (fun b hb => ?_) (fun a ha h8 => ?_) (Nat.le_refl _) (Nat.le_refl _)
  · have e : b ≠ sz σ := by omega
    exact ⟨if_neg e, if_neg e, fun _ => if_neg e, fun _ => if_neg e, fun _ => if_neg e, fun _ => if_neg e, fun _ => if_neg e⟩
  · have hb2 : sz σ + 1 ≤ b := hb
    show (if b = sz σ then κ else sK σ b) = 0
    rw [if_neg (by omega)]
    exact hp.1.1.2 b (by omega)
  · exfalso
    have h8' : (if a = sz σ then κ else sK σ a) = 8 := h8
    split at h8'
    · omega
    · rw [hp.1.1.2 a (by omega)] at h8'; omega
/-- a reference of a cell that is neither a Nat nor limbs is written: a new one, or one that may change -/
theorem cW.wf {x a f v k c : Nat} {S : Nat → Prop} {σ0 σ : St} (h : cW x S k c σ0 σ) (ha : sz σ0 ≤ a ∨ mutF f = true ∧ S a) (h8 : sK σ a ≠ 8) (h2 : sK σ a ≠ 100) : cW x S k c σ0 (wF σ f a v) := by
  obtain ⟨⟨hp0, ho, hP⟩, ⟨a3, a4⟩, a5, a6, a7, a8⟩ := h
  have hlb : ∀ b, sK σ b = 8 → lb (wF σ f a v) b = lb σ b := fun b hb => sF_wF_a (fun e => h8 (by rw [← e]; exact hb))
  have hPot : Pot (PX x) (wF σ f a v) = Pot (PX x) σ := Pot_same fun b hb => by
    obtain ⟨u, l, n, w, g, _⟩ := hP b hb
    rw [hlb b g.1]
    rfl
  have e1 : sw (wF σ f a v) = sw σ := rfl
  have e2 : sc (wF σ f a v) = sc σ := rfl
  have ho2 : Own (wF σ f a v) := by
    refine ⟨ho.1, fun b hb => ?_⟩
    have hb' : sK σ b = 8 := hb
    rw [hlb b hb']
    exact ⟨(ho.2 b hb').1, fun c hc e => (ho.2 b hb').2 c hc (by rw [← hlb c hc]; exact e)⟩
  have hn : ∀ b z, Nt σ b z → Nt (wF σ f a v) b z := by
    rintro b z ⟨l, n, w, ⟨g1, g2, g3⟩, g4⟩
    exact ⟨l, n, w, ⟨g1, (hlb b g1).trans g2, g3⟩, g4⟩
  refine ⟨⟨hp0, ho2, fun b hb => ?_⟩, ⟨a3, fun b hb => ⟨(a4 b hb).1, (a4 b hb).2.1, fun g hg => ?_⟩⟩, fun b hb q1 q2 => (a5 b hb q1 q2).tr ⟨fun _ => rfl, fun g => ?_, fun _ => rfl, fun _ => rfl, fun _ => rfl⟩, fun b hb => ?_, by omega, by omega⟩
  · obtain ⟨z, hz⟩ := hP b hb
    exact ⟨z, hn b z hz⟩
  · refine (sF_wF_ne ?_).trans ((a4 b hb).2.2 g hg)
    rintro ⟨rfl, rfl⟩
    rcases ha with ha | ha
    · omega
    · rw [hg] at ha; cases ha.1
  · refine sF_wF_ne ?_
    rintro ⟨rfl, rfl⟩
    rcases ha with ha | ha
    · omega
    · exact q1 (hp0.1.nl (by rw [← (a4 b hb).1]; exact h2)) ha.2
  · rw [hlb b hb]
    exact a6 b hb
/-! ===== the paths by way of the first nodes ===== -/
def Wk (A : Nat → Nat → Prop) : Nat → Nat → Nat → Prop
  | 0, i, j => A i j
  | k + 1, i, j => Wk A k i j ∨ Wk A k i k ∧ Wk A k k j
theorem Wk.up {A : Nat → Nat → Prop} {i j : Nat} : ∀ {k m : Nat}, Wk A k i j → k ≤ m → Wk A m i j := by
  intro k m h hm
  induction m with
  | zero => have : k = 0 := by omega
            subst this
            exact h
  | succ m ih =>
    by_cases e : k = m + 1
    · subst e; exact h
    · exact Or.inl (ih (by omega))
theorem Wk.trans {A : Nat → Nat → Prop} : ∀ {k i m j : Nat}, m < k → Wk A k i m → Wk A k m j → Wk A k i j := by
  intro k
  induction k with
  | zero => intro i m j h; omega
  | succ k ih =>
    intro i m j hm h1 h2
    by_cases c : m = k
    · subst c
      have g1 : Wk A m i m := by
        rcases h1 with h | ⟨h, _⟩ <;> exact h
      have g2 : Wk A m m j := by
        rcases h2 with h | ⟨_, h⟩ <;> exact h
      exact Or.inr ⟨g1, g2⟩
    · have hm2 : m < k := by omega
      rcases h1 with h1 | ⟨h1, h1'⟩
      · rcases h2 with h2 | ⟨h2, h2'⟩
        · exact Or.inl (ih hm2 h1 h2)
        · exact Or.inr ⟨ih hm2 h1 h2, h2'⟩
      · rcases h2 with h2 | ⟨h2, h2'⟩
        · exact Or.inr ⟨h1, ih hm2 h1' h2⟩
        · exact Or.inr ⟨h1, h2'⟩
/-- what a node uses -/
def aT (T : List Th) (i j : Nat) : Prop := ∃ e, T[i]? = some e ∧ uS T e.2.2 j
theorem Wk.rch {T : List Th} : ∀ {k i j : Nat} {e : Th}, T[i]? = some e → Wk (aT T) k i j → rS T e.2.2 j := by
  intro k
  induction k with
  | zero =>
    rintro i j e he ⟨e1, h1, e2, h2, h3⟩
    rw [he] at h1
    cases h1
    exact ⟨e2, h2, Rch.one ⟨List.mem_of_getElem? h2, h3⟩⟩
  | succ k ih =>
    rintro i j e he (h | ⟨h1, h2⟩)
    · exact ih he h
    · obtain ⟨e1, g1, g2⟩ := ih he h1
      obtain ⟨e2, g3, g4⟩ := ih g1 h2
      exact ⟨e2, g3, Rch.closed (C := fun z => Rch T e.2.2 z) (fun z z' hz hz' => hz.snoc hz') (fun z hz => g2.snoc hz) g4⟩
theorem Wk.all {T : List Th} {i j : Nat} {e : Th} (he : T[i]? = some e) : Wk (aT T) T.length i j ↔ rS T e.2.2 j := by
  refine ⟨Wk.rch he, ?_⟩
  rintro ⟨e2, h2, hr⟩
  have key : ∀ z : Th, Rch T e.2.2 z → z ∈ T ∧ ∀ m, T[m]? = some z → Wk (aT T) T.length i m := by
    intro z hz
    refine Rch.closed (C := fun z => z ∈ T ∧ ∀ m, T[m]? = some z → Wk (aT T) T.length i m) (fun z z' hz hz' => ⟨hz'.1, fun m hm => ?_⟩) (fun z hz => ⟨hz.1, fun m hm => ?_⟩) hz
    · obtain ⟨n, hn⟩ := List.getElem?_of_mem hz.1
      refine Wk.trans (m := n) (List.getElem?_eq_some_iff.mp hn).1 (hz.2 n hn) ?_
      exact Wk.up (k := 0) ⟨z, hn, z', hm, hz'.2⟩ (Nat.zero_le _)
    · exact Wk.up (k := 0) ⟨e, he, z, hm, hz.2⟩ (Nat.zero_le _)
  exact (key e2 hr).2 j h2
/-! ===== weave ===== -/
/-- a book's rows of sets -/
def Wv (σ : St) (x b da ra n : Nat) : Prop := (sK σ b = 5 ∧ sF σ (fid 4 2) b = da ∧ sF σ (fid 4 3) b = ra) ∧ (KA σ x da n ∧ KA σ x ra n) ∧ da ≠ ra
theorem Wv.kW {σ σ1 : St} {x b da ra n : Nat} (h : Wv σ x b da ra n) (hF : cW x (s2 da ra) 0 0 σ σ1) : Wv σ1 x b da ra n := by
  obtain ⟨⟨h1, h2, h3⟩, ⟨⟨k1, k2, k3, k4⟩, l1, l2, l3, l4⟩, h5⟩ := h
  have hz1 : da < sz σ := hF.1.1.1.lt (by omega)
  have hz2 : ra < sz σ := hF.1.1.1.lt (by omega)
  have hs := hF.sam (a := b) (by omega) (Or.inl (by omega)) (by
    rintro (e | e)
    · rw [e] at h1; omega
    · rw [e] at h1; omega)
  exact ⟨⟨hF.k h1 (by omega), by rw [hs.2.1]; exact h2, by rw [hs.2.1]; exact h3⟩, ⟨⟨k1, hF.k k2 (by omega), by rw [(hF.2.1.2 da hz1).2.1]; exact k3, hF.nl hz1 k4⟩, l1, hF.k l2 (by omega), by rw [(hF.2.1.2 ra hz2).2.1]; exact l3, hF.nl hz2 l4⟩, h5⟩
theorem Wv.f {σ : St} {x b da ra n : Nat} (h : Wv σ x b da ra n) : gF σ 4 2 b = some da ∧ gF σ 4 3 b = some ra ∧ aln σ da = some (nI n) ∧ aln σ ra = some (nI n) ∧ ckK σ 5 b = some () := by
  obtain ⟨⟨h1, h2, h3⟩, ⟨⟨k1, k2, k3, k4⟩, l1, l2, l3, l4⟩, h5⟩ := h
  exact ⟨(sm_gF h1).trans (congrArg some h2), (sm_gF h1).trans (congrArg some h3), (sm_aln k2 ⟨by omega, by omega⟩).trans (by rw [k3]), (sm_aln l2 ⟨by omega, by omega⟩).trans (by rw [l3]), sm_ckK h1⟩
/-- a row of sets is written -/
theorem Wv.da {σ σ1 : St} {x b da ra n j : Nat} {v : Int32} (h : Wv σ1 x b da ra n) (hF : cW x (s2 da ra) 0 0 σ σ1) (hj : j < n) (hn : n ≤ 30) : stI σ1 da (nI j) v = some (wA σ1 da j v) ∧ cW x (s2 da ra) 0 0 σ (wA σ1 da j v) ∧ (∀ i, sA (wA σ1 da j v) ra i = sA σ1 ra i) ∧ ∀ i, sA (wA σ1 da j v) da i = if i = j then v else sA σ1 da i := by
  obtain ⟨⟨h1, h2, h3⟩, ⟨⟨k1, k2, k3, k4⟩, l1, l2, l3, l4⟩, h5⟩ := h
  exact ⟨sm_st k2 (by omega) (by omega), hF.tr0 (cWa hF.hp k2 k4) (fun r _ hr => Or.inl hr), fun i => congrFun (sA_wA_b (fun e => h5 e.symm)) i, fun i => sA_wA_if⟩
theorem Wv.ra {σ σ1 : St} {x b da ra n j : Nat} {v : Int32} (h : Wv σ1 x b da ra n) (hF : cW x (s2 da ra) 0 0 σ σ1) (hj : j < n) (hn : n ≤ 30) : stI σ1 ra (nI j) v = some (wA σ1 ra j v) ∧ cW x (s2 da ra) 0 0 σ (wA σ1 ra j v) ∧ (∀ i, sA (wA σ1 ra j v) da i = sA σ1 da i) ∧ ∀ i, sA (wA σ1 ra j v) ra i = if i = j then v else sA σ1 ra i := by
  obtain ⟨⟨h1, h2, h3⟩, ⟨⟨k1, k2, k3, k4⟩, l1, l2, l3, l4⟩, h5⟩ := h
  exact ⟨sm_st l2 (by omega) (by omega), hF.tr0 (cWa hF.hp l2 l4) (fun r _ hr => Or.inr hr), fun i => congrFun (sA_wA_b h5) i, fun i => sA_wA_if⟩
theorem Wv.ld {σ : St} {x b da ra n j : Nat} (h : Wv σ x b da ra n) (hj : j < n) (hn : n ≤ 30) : ldI σ da (nI j) = some (sA σ da j) ∧ ldI σ ra (nI j) = some (sA σ ra j) := by
  obtain ⟨⟨h1, h2, h3⟩, ⟨⟨k1, k2, k3, k4⟩, l1, l2, l3, l4⟩, h5⟩ := h
  exact ⟨sm_ld k2 (by omega) (by omega), sm_ld l2 (by omega) (by omega)⟩
def Dn (σ : St) (T : List Th) (da : Nat) : Prop := ∀ i e, T[i]? = some e → Bm (sA σ da i) (uS T e.2.2)
theorem cb_weave_70 {σ : St} {x b da ra by_ : Nat} {T : List Th} (hV : Wv σ x b da ra T.length) (hT : T.length ≤ 30) (hby : by_ < T.length) (k59 : St → Nat → Int32 → Option (St × Unit)) (Q : St → Unit → Prop)
    (hk : ∀ σ2, cW x (s2 da ra) 0 0 σ σ2 → Dn σ2 T da → (∀ i, i < T.length → Bm (sA σ2 ra i) (Wk (aT T) (by_ + 1) i)) → Hx (k59 σ2 b (nI (by_ + 1))) Q) :
    ∀ (n m : Nat) (σ1 : St), T.length - m < n → m ≤ T.length → cW x (s2 da ra) 0 0 σ σ1 → Dn σ1 T da → (∀ i, i < T.length → Bm (sA σ1 ra i) (Wk (aT T) (if i < m then by_ + 1 else by_) i)) → Hx (fX0_weave_70 k59 n σ1 b (nI by_) (nI m)) Q := by
  intro n
  induction n with
  | zero => intro m σ1 h; omega
  | succ n ih =>
    intro m σ1 hn hm hF hD hR
    have hV1 := hV.kW hF
    obtain ⟨f1, f2, a1, a2, c5⟩ := hV1.f
    rw [n_fX0_weave_70, f2]
    refine hx_bs ?_
    rw [a2]
    refine hx_bs (Hx.ce (sm_le (by omega) (by omega)) (fun c => ?_) (fun c => ?_))
    · refine hx_nm ?_
      rw [sm_add]
      exact hk σ1 hF hD fun i hi => by
        have := hR i hi
        rw [if_pos (by omega)] at this
        exact this
    · have hml : m < T.length := by omega
      obtain ⟨_, l2⟩ := hV1.ld hml hT
      obtain ⟨_, l3⟩ := hV1.ld hby hT
      simp only [l2, l3, sm_bind]
      have hRm := hR m hml
      rw [if_neg (by omega)] at hRm
      have hRb : Bm (sA σ1 ra by_) (Wk (aT T) by_ by_) := (hR by_ hby).cg fun j _ => by
        split
        · exact ⟨fun h => by rcases h with h | ⟨_, h⟩ <;> exact h, fun h => Or.inl h⟩
        · exact Iff.rfl
      have hstep : ∀ σ2, cW x (s2 da ra) 0 0 σ σ2 → Dn σ2 T da → (∀ i, i < T.length → Bm (sA σ2 ra i) (Wk (aT T) (if i < m + 1 then by_ + 1 else by_) i)) → Hx (fX0_weave_107 k59 (fX0_weave_70 k59 n) σ2 b (nI by_) (nI m)) Q := by
        intro σ2 g1 g2 g3
        rw [n_fX0_weave_107]
        refine hx_nm ?_
        rw [sm_add]
        exact ih (m + 1) σ2 (by omega) (by omega) g1 g2 g3
      refine Hx.ce (bm_test hRm (by omega)) (fun c2 => ?_) (fun c2 => ?_)
      · refine hstep σ1 hF hD fun i hi => ?_
        by_cases e : i = m
        · subst e
          rw [if_pos (by omega)]
          exact hRm.cg fun j _ => ⟨fun h => Or.inl h, fun h => by
            rcases h with h | ⟨h, _⟩
            · exact h
            · exact absurd h c2⟩
        · have := hR i hi
          by_cases e2 : i < m
          · rw [if_pos e2] at this; rw [if_pos (by omega)]; exact this
          · rw [if_neg e2] at this; rw [if_neg (by omega)]; exact this
      · have c3 : Wk (aT T) by_ m by_ := Classical.not_not.mp c2
        obtain ⟨q1, q2, q3, q4⟩ := hV1.ra (v := sA σ1 ra m ||| sA σ1 ra by_) hF hml hT
        rw [q1]
        refine hx_bs (hstep _ q2 (fun i e he => by rw [q3]; exact hD i e he) fun i hi => ?_)
        rw [q4]
        by_cases e : i = m
        · subst e
          rw [if_pos rfl, if_pos (by omega)]
          exact (bm_or hRm hRb).cg fun j _ => ⟨fun h => by
            rcases h with h | h
            · exact Or.inl h
            · exact Or.inr ⟨c3, h⟩, fun h => by
            rcases h with h | ⟨_, h⟩
            · exact Or.inl h
            · exact Or.inr h⟩
        · rw [if_neg e]
          have := hR i hi
          by_cases e2 : i < m
          · rw [if_pos e2] at this; rw [if_pos (by omega)]; exact this
          · rw [if_neg e2] at this; rw [if_neg (by omega)]; exact this
theorem cb_weave_59 {σ : St} {x b da ra : Nat} {T : List Th} (hV : Wv σ x b da ra T.length) (hT : T.length ≤ 30) :
    ∀ (n k : Nat) (σ1 : St), T.length - k < n → k ≤ T.length → cW x (s2 da ra) 0 0 σ σ1 → Dn σ1 T da → (∀ i, i < T.length → Bm (sA σ1 ra i) (Wk (aT T) k i)) → Hx (fX0_weave_59 n σ1 b (nI k)) (fun σ' _ => cW x (s2 da ra) 0 0 σ σ' ∧ KUs σ' x b T) := by
  intro n
  induction n with
  | zero => intro k σ1 h; omega
  | succ n ih =>
    intro k σ1 hn hk hF hD hR
    have hV1 := hV.kW hF
    obtain ⟨f1, f2, a1, a2, c5⟩ := hV1.f
    rw [n_fX0_weave_59, f2]
    refine hx_bs ?_
    rw [a2]
    refine hx_bs (Hx.ce (sm_le (by omega) (by omega)) (fun c => ?_) (fun c => ?_))
    · have : k = T.length := by omega
      subst this
      obtain ⟨⟨_, h2, h3⟩, hA, _⟩ := hV1
      refine Hx.ret ⟨hF, da, ra, ⟨h2, h3⟩, hA, fun i e he => ⟨hD i e he, (hR i (List.getElem?_eq_some_iff.mp he).1).cg fun j _ => Wk.all he⟩⟩
    · refine cb_weave_70 hV hT (by omega) (fX0_weave_59 n) _ (fun σ2 g1 g2 g3 => ih (k + 1) σ2 (by omega) (by omega) g1 g2 g3) FU 0 σ1 (by show T.length - 0 < 4294967296; omega) (Nat.zero_le _) hF hD fun i hi => ?_
      rw [if_neg (Nat.not_lt_zero _)]
      exact hR i hi
/-- the thing told of a node -/
theorem KBk.th {σ : St} {x b na fa k : Nat} {ns : List NE} {fs : List FE} (h : KBk σ x b na fa ns fs) (hk : k < (Ths ns fs).length) : ∃ t w np l vo e, (if k < ns.length then sQ σ na k else sQ σ fa (k - ns.length)) = t ∧ KTold σ x t w np l vo ∧ (Ths ns fs)[k]? = some e ∧ e.2.2 = l := by
  have hTl := Ths_len ns fs
  by_cases c : k < ns.length
  · refine ⟨_, _, _, _, _, (0, ns[k].1, ns[k].2.1), if_pos c, h.2.2.2.1 k _ (List.getElem?_eq_getElem c), ?_, rfl⟩
    rw [Ths_get, if_pos c, List.getElem?_eq_getElem c]
    rfl
  · have hk2 : k - ns.length < fs.length := by omega
    refine ⟨_, _, _, _, _, (1, fs[k - ns.length].1, fs[k - ns.length].2.2), if_neg c, (h.2.2.2.2 (k - ns.length) _ (List.getElem?_eq_getElem hk2)).1, ?_, rfl⟩
    rw [Ths_get, if_neg c, List.getElem?_eq_getElem hk2]
    rfl
theorem cb_weave {σ : St} {x b na fa da ra : Nat} {ns : List NE} {fs : List FE} (hp : HP (PX x) σ) (hV : Wv σ x b da ra (Ths ns fs).length) (hK : ∀ σ1, cW x (s2 da ra) 0 0 σ σ1 → KBk σ1 x b na fa ns fs) (hN : Nod ns fs) (hkw : ∀ e ∈ fs, known e.1 = 0) :
    Hx (fX0_weave σ b) (fun σ' _ => cW x (s2 da ra) 0 0 σ σ' ∧ KUs σ' x b (Ths ns fs)) := by
  have hTl := Ths_len ns fs
  have hln := (hK σ (cW.rf hp)).1.2.2
  have hT : (Ths ns fs).length ≤ 30 := by omega
  have key : ∀ (n k : Nat) (σ1 : St), (Ths ns fs).length - k < n → k ≤ (Ths ns fs).length → cW x (s2 da ra) 0 0 σ σ1 → (∀ i e, i < k → (Ths ns fs)[i]? = some e → Bm (sA σ1 da i) (uS (Ths ns fs) e.2.2) ∧ Bm (sA σ1 ra i) (uS (Ths ns fs) e.2.2)) → Hx (fX0_weave_2 n σ1 b (nI k)) (fun σ' _ => cW x (s2 da ra) 0 0 σ σ' ∧ KUs σ' x b (Ths ns fs)) := by
    intro n
    induction n with
    | zero => intro k σ1 h; omega
    | succ n ih =>
      intro k σ1 hn hk hF hD
      have hV1 := hV.kW hF
      have hB := hK σ1 hF
      obtain ⟨f1, f2, a1, a2, c5⟩ := hV1.f
      rw [n_fX0_weave_2, f1]
      refine hx_bs ?_
      rw [a1]
      refine hx_bs (Hx.ce (sm_le (by omega) (by omega)) (fun c => ?_) (fun c => ?_))
      · have : k = (Ths ns fs).length := by omega
        subst this
        refine cb_weave_59 hV hT FU 0 σ1 (by show (Ths ns fs).length - 0 < 4294967296; omega) (Nat.zero_le _) hF (fun i e he => (hD i e (List.getElem?_eq_some_iff.mp he).1 he).1) fun i hi => ?_
        have he := List.getElem?_eq_getElem hi
        exact (hD i _ hi he).2.cg fun j _ => ⟨fun h => ⟨_, he, h⟩, fun ⟨e', h1, h2⟩ => by rw [he] at h1; cases h1; exact h2⟩
      · have hkl : k < (Ths ns fs).length := by omega
        obtain ⟨t, w, np, l, vo, e, h1, h2, h3, h4⟩ := hB.th hkl
        rw [c5]
        refine hx_bs ?_
        rw [cb_toldAt hB (by omega), h1]
        refine hx_cs ?_
        rw [f1]
        refine hx_bs ?_
        obtain ⟨_, _, k3, _, _, k6⟩ := h2.k
        rw [if_neg k6, k3]
        refine hx_bs ?_
        obtain ⟨v, hv, hv2⟩ := cb_usedBy hB h2.2.2.2.1 hN hkw
        rw [c5]
        refine hx_bs ?_
        rw [hv]
        refine hx_cs ?_
        obtain ⟨q1, q2, q3, q4⟩ := hV1.da (v := v) hF hkl hT
        have hV2 := hV.kW q2
        obtain ⟨r1, r2, r3, r4⟩ := hV2.ra (v := v) q2 hkl hT
        obtain ⟨g1, g2, _⟩ := hV2.f
        rw [n_fX0_weave_38, q1]
        refine hx_bs ?_
        rw [g2]
        refine hx_bs ?_
        rw [g1]
        refine hx_bs ?_
        rw [(hV2.ld hkl hT).1, q4, if_pos rfl]
        refine hx_bs ?_
        rw [r1]
        refine hx_bs (hx_nm ?_)
        rw [sm_add]
        refine ih (k + 1) _ (by omega) (by omega) r2 fun i e' hi he' => ?_
        rw [r3, r4, q4, q3]
        by_cases e9 : i = k
        · subst e9
          rw [h3] at he'
          cases he'
          rw [if_pos rfl, if_pos rfl, h4]
          exact ⟨hv2, hv2⟩
        · rw [if_neg e9, if_neg e9]
          exact hD i e' (by omega) he'
  rw [n_fX0_weave]
  exact key FU 0 σ (by show (Ths ns fs).length - 0 < 4294967296; omega) (Nat.zero_le _) (cW.rf hp) fun i e hi => absurd hi (Nat.not_lt_zero _)
