/-! ===== the class' book: sets of nodes ===== -/
theorem oU_f {σ : St} {x b : Nat} {T : List Th} (h : KUs σ x b T) (h5 : sK σ b = 5) : ∃ da ra, gF σ 4 2 b = some da ∧ gF σ 4 3 b = some ra ∧ aln σ da = some (nI T.length) ∧ aln σ ra = some (nI T.length) ∧ ∀ i e, T[i]? = some e → (T.length ≤ 30 → ∃ v w, ldI σ da (nI i) = some v ∧ ldI σ ra (nI i) = some w ∧ Bm v (uS T e.2.2) ∧ Bm w (rS T e.2.2)) := by
  obtain ⟨da, ra, ⟨g1, g2⟩, ⟨k1, k2⟩, hi⟩ := h
  refine ⟨da, ra, (sm_gF h5).trans (congrArg some g1), (sm_gF h5).trans (congrArg some g2), (sm_aln k1.2.1 ⟨by omega, by omega⟩).trans (by rw [k1.2.2.1]), (sm_aln k2.2.1 ⟨by omega, by omega⟩).trans (by rw [k2.2.2.1]), fun i e he hT => ?_⟩
  have hl := (List.getElem?_eq_some_iff.mp he).1
  obtain ⟨q1, q2⟩ := hi i e he
  exact ⟨_, _, sm_ld k1.2.1 (by rw [k1.2.2.1]; exact hl) (by omega), sm_ld k2.2.1 (by rw [k2.2.2.1]; exact hl) (by omega), q1, q2⟩
theorem cb_isUsing {σ : St} {x b i j : Nat} {T : List Th} {e : Th} (hU : KUs σ x b T) (h5 : sK σ b = 5) (hT : T.length ≤ 30) (hi : T[i]? = some e) (hj : j < 32) : fX0_isUsing σ b (nI i) (nI j) = some (σ, nI (b01 (rS T e.2.2 j))) := by
  obtain ⟨da, ra, f1, f2, a1, a2, hd⟩ := oU_f hU h5
  obtain ⟨v, w, l1, l2, m1, m2⟩ := hd i e hi hT
  have hl := (List.getElem?_eq_some_iff.mp hi).1
  apply hx_eq
  rw [n_fX0_isUsing]
  refine Hx.ce (sm_lt (by omega) (by omega)) (fun c => by omega) (fun _ => ?_)
  simp only [f2, a2, l2, sm_bind]
  refine Hx.ce (sm_le (by omega) (by omega)) (fun c => by omega) (fun _ => ?_)
  refine Hx.ce (bm_test m2 hj) (fun c => ?_) (fun c => ?_)
  · rw [b01_n c]
    exact Hx.ret ⟨rfl, rfl⟩
  · rw [b01_p (Classical.not_not.mp c)]
    exact Hx.ret ⟨rfl, rfl⟩
theorem cb_isUsed_loop {σ : St} {x b j : Nat} {T : List Th} (hU : KUs σ x b T) (h5 : sK σ b = 5) (hT : T.length ≤ 30) (hj : j < 32) : ∀ (n k : Nat), T.length - k < n → k ≤ T.length → (∀ i e, i < k → T[i]? = some e → ¬ rS T e.2.2 j) → fX0_isUsed_2 n σ b (nI j) (nI k) = some (σ, nI (b01 (∃ (i : Nat) (e : Th), T[i]? = some e ∧ rS T e.2.2 j))) := by
  obtain ⟨da, ra, f1, f2, a1, a2, hd⟩ := oU_f hU h5
  intro n
  induction n with
  | zero => intro k h; omega
  | succ n ih =>
    intro k hn hk hno
    apply hx_eq
    rw [n_fX0_isUsed_2, f2]
    refine hx_bs ?_
    rw [a2]
    refine hx_bs (Hx.ce (sm_le (by omega) (by omega)) (fun c => ?_) (fun c => ?_))
    · rw [b01_n]
      · exact Hx.ret ⟨rfl, rfl⟩
      · rintro ⟨i, e, h1, h2⟩
        exact hno i e (by have := (List.getElem?_eq_some_iff.mp h1).1; omega) h1 h2
    · have hk2 : k < T.length := by omega
      have hg : T[k]? = some T[k] := List.getElem?_eq_getElem hk2
      rw [sm_ckK h5]
      refine hx_bs ?_
      rw [cb_isUsing hU h5 hT hg hj]
      refine hx_cs (Hx.ce b01_0 (fun c2 => ?_) (fun c2 => ?_))
      · refine hx_nm ?_
        rw [sm_add, ih (k + 1) (by omega) (by omega) (fun i e h1 h2 => ?_)]
        · exact Hx.ret ⟨rfl, rfl⟩
        · by_cases e9 : i = k
          · subst e9
            rw [hg] at h2
            cases h2
            exact c2
          · exact hno i e (by omega) h2
      · rw [b01_p ⟨k, _, hg, Classical.not_not.mp c2⟩]
        exact Hx.ret ⟨rfl, rfl⟩
theorem cb_isUsed {σ : St} {x b j : Nat} {T : List Th} (hU : KUs σ x b T) (h5 : sK σ b = 5) (hT : T.length ≤ 30) (hj : j < 32) : fX0_isUsed σ b (nI j) = some (σ, nI (b01 (∃ (i : Nat) (e : Th), T[i]? = some e ∧ rS T e.2.2 j))) := by
  rw [n_fX0_isUsed]
  exact cb_isUsed_loop hU h5 hT hj FU 0 (by show T.length - 0 < 4294967296; omega) (Nat.zero_le _) (fun i e h => absurd h (Nat.not_lt_zero _))
theorem cb_usersOf_loop {σ : St} {x b na fa j : Nat} {ns : List NE} {fs : List FE} (hB : KBk σ x b na fa ns fs) (hU : KUs σ x b (Ths ns fs)) (hj : j < 32) : ∀ (n k : Nat) (v : Int32), ns.length - k < n → k ≤ ns.length → Bm v (fun i => i < k ∧ ∃ e, (Ths ns fs)[i]? = some e ∧ rS (Ths ns fs) e.2.2 j) →
    ∃ v', fX0_usersOf_4 n σ b (nI j) v (nI k) = some (σ, v') ∧ Bm v' (fun i => i < ns.length ∧ ∃ e, (Ths ns fs)[i]? = some e ∧ rS (Ths ns fs) e.2.2 j) := by
  have h5 := hB.1.2.1
  have hln := hB.1.2.2
  have hTl := Ths_len ns fs
  obtain ⟨f1, f2, a1, a2, c5⟩ := ob_f hB
  intro n
  induction n with
  | zero => intro k v h; omega
  | succ n ih =>
    intro k v hn hk hv
    have hx : Hx (fX0_usersOf_4 (n + 1) σ b (nI j) v (nI k)) (fun σ' v' => σ' = σ ∧ Bm v' (fun i => i < ns.length ∧ ∃ e, (Ths ns fs)[i]? = some e ∧ rS (Ths ns fs) e.2.2 j)) := by
      rw [n_fX0_usersOf_4, f1]
      refine hx_bs ?_
      rw [a1]
      refine hx_bs (Hx.ce (sm_le (by omega) (by omega)) (fun c => ?_) (fun c => ?_))
      · have : k = ns.length := by omega
        subst this
        exact Hx.ret ⟨rfl, hv⟩
      · have hk2 : k < (Ths ns fs).length := by omega
        have hg : (Ths ns fs)[k]? = some (Ths ns fs)[k] := List.getElem?_eq_getElem hk2
        refine Hx.ce (mx_eq (by omega) (by omega) (by omega)) (fun c2 => by omega) (fun _ => ?_)
        rw [c5]
        refine hx_bs ?_
        rw [cb_isUsing hU h5 (by omega) hg hj]
        have h33 : ∀ w, Bm w (fun i => i < k + 1 ∧ ∃ e, (Ths ns fs)[i]? = some e ∧ rS (Ths ns fs) e.2.2 j) → Hx (fX0_usersOf_33 (fX0_usersOf_4 n) σ b (nI j) w (nI k)) (fun σ' v' => σ' = σ ∧ Bm v' (fun i => i < ns.length ∧ ∃ e, (Ths ns fs)[i]? = some e ∧ rS (Ths ns fs) e.2.2 j)) := by
          intro w hw
          obtain ⟨v', e1, e2⟩ := ih (k + 1) w (by omega) (by omega) hw
          rw [n_fX0_usersOf_33]
          refine hx_nm ?_
          rw [sm_add, e1]
          exact Hx.ret ⟨rfl, e2⟩
        refine hx_cs (Hx.ce b01_0 (fun c2 => ?_) (fun c2 => ?_))
        · refine h33 v (hv.cg fun i _ => ⟨fun h => ⟨by omega, h.2⟩, fun h => ⟨?_, h.2⟩⟩)
          by_cases e9 : i = k
          · exfalso
            obtain ⟨_, e, h1, h2⟩ := h
            subst e9
            rw [hg] at h1
            cases h1
            exact c2 h2
          · omega
        · refine hx_nm (h33 _ ((bm_or hv (bm_shl (show k < 32 by omega))).cg fun i _ => ⟨?_, ?_⟩))
          · rintro (h | rfl)
            · exact ⟨by omega, h.2⟩
            · exact ⟨by omega, _, hg, Classical.not_not.mp c2⟩
          · rintro ⟨h1, h2⟩
            by_cases e9 : i = k
            · exact Or.inr e9
            · exact Or.inl ⟨by omega, h2⟩
    obtain ⟨σ', v', e, rfl, h2⟩ := hx
    exact ⟨v', e, h2⟩
theorem cb_usersOf {σ : St} {x b na fa j : Nat} {ns : List NE} {fs : List FE} (hB : KBk σ x b na fa ns fs) (hU : KUs σ x b (Ths ns fs)) (hj : j < 32) : ∃ v, fX0_usersOf σ b (nI j) = some (σ, v) ∧ Bm v (fun i => i < ns.length ∧ ∃ e, (Ths ns fs)[i]? = some e ∧ rS (Ths ns fs) e.2.2 j) := by
  have hln := hB.1.2.2
  rw [n_fX0_usersOf]
  exact cb_usersOf_loop hB hU hj FU 0 (nI 0) (by show ns.length - 0 < 4294967296; omega) (Nat.zero_le _) (bm_0.cg fun i _ => ⟨fun h => h.elim, fun h => absurd h.1 (Nat.not_lt_zero _)⟩)
theorem cb_usersM {σ : St} {x b na fa : Nat} {ns : List NE} {fs : List FE} (hB : KBk σ x b na fa ns fs) : fX0_usersOf σ b (iz (-1)) = some (σ, nI 0) := by
  obtain ⟨f1, f2, a1, a2, c5⟩ := ob_f hB
  apply hx_eq
  rw [n_fX0_usersOf]
  show Hx (fX0_usersOf_4 (4294967295 + 1) σ b (iz (-1)) (nI 0) (nI 0)) _
  rw [n_fX0_usersOf_4, f1]
  refine hx_bs ?_
  rw [a1]
  refine hx_bs (Hx.cs (fun _ => Hx.ret ⟨rfl, rfl⟩) (fun _ => Hx.cs (fun _ => Hx.ret ⟨rfl, rfl⟩) (fun c => absurd rfl c)))
/-- the first of a set that is a node, or leads to it -/
theorem cb_firstTowards_loop {σ : St} {x b j : Nat} {T : List Th} {u : Int32} {p : Nat → Prop} (hU : KUs σ x b T) (h5 : sK σ b = 5) (hT : T.length ≤ 30) (hj : j < 32) (hu : Bm u p) : ∀ (n k : Nat), T.length - k < n → k ≤ T.length → (∀ i e, i < k → T[i]? = some e → ¬ (p i ∧ (i = j ∨ rS T e.2.2 j))) →
    ∃ o, fX0_firstTowards_2 n σ b u (nI j) (nI k) = some (σ, iz (thn o 0)) ∧ (∀ i, o = some i → ∃ e, T[i]? = some e ∧ p i ∧ (i = j ∨ rS T e.2.2 j) ∧ ∀ i' e', i' < i → T[i']? = some e' → ¬ (p i' ∧ (i' = j ∨ rS T e'.2.2 j))) ∧ (o = none → ∀ i e, T[i]? = some e → ¬ (p i ∧ (i = j ∨ rS T e.2.2 j))) := by
  obtain ⟨da, ra, f1, f2, a1, a2, hd⟩ := oU_f hU h5
  intro n
  induction n with
  | zero => intro k h; omega
  | succ n ih =>
    intro k hn hk hno
    have hx : Hx (fX0_firstTowards_2 (n + 1) σ b u (nI j) (nI k)) (fun σ' v' => σ' = σ ∧ ∃ o, v' = iz (thn o 0) ∧ (∀ i, o = some i → ∃ e, T[i]? = some e ∧ p i ∧ (i = j ∨ rS T e.2.2 j) ∧ ∀ i' e', i' < i → T[i']? = some e' → ¬ (p i' ∧ (i' = j ∨ rS T e'.2.2 j))) ∧ (o = none → ∀ i e, T[i]? = some e → ¬ (p i ∧ (i = j ∨ rS T e.2.2 j)))) := by
      rw [n_fX0_firstTowards_2, f2]
      refine hx_bs ?_
      rw [a2]
      refine hx_bs (Hx.ce (sm_le (by omega) (by omega)) (fun c => ?_) (fun c => ?_))
      · exact Hx.ret ⟨rfl, none, rfl, fun i h => by (cases h), fun _ i e h1 => hno i e (by have := (List.getElem?_eq_some_iff.mp h1).1; omega) h1⟩
      · have hk2 : k < T.length := by omega
        have hg : T[k]? = some T[k] := List.getElem?_eq_getElem hk2
        have h35 : ¬ (p k ∧ (k = j ∨ rS T (T[k]).2.2 j)) → Hx (fX0_firstTowards_35 (fX0_firstTowards_2 n) σ b u (nI j) (nI k)) (fun σ' v' => σ' = σ ∧ ∃ o, v' = iz (thn o 0) ∧ (∀ i, o = some i → ∃ e, T[i]? = some e ∧ p i ∧ (i = j ∨ rS T e.2.2 j) ∧ ∀ i' e', i' < i → T[i']? = some e' → ¬ (p i' ∧ (i' = j ∨ rS T e'.2.2 j))) ∧ (o = none → ∀ i e, T[i]? = some e → ¬ (p i ∧ (i = j ∨ rS T e.2.2 j)))) := by
          intro hq
          obtain ⟨o, e1, e2, e3⟩ := ih (k + 1) (by omega) (by omega) (fun i e h1 h2 => by
            by_cases e9 : i = k
            · subst e9
              rw [hg] at h2
              cases h2
              exact hq
            · exact hno i e (by omega) h2)
          rw [n_fX0_firstTowards_35]
          refine hx_nm ?_
          rw [sm_add, e1]
          exact Hx.ret ⟨rfl, o, rfl, e2, e3⟩
        have hyes : p k ∧ (k = j ∨ rS T (T[k]).2.2 j) → Hx (some (σ, nI k)) (fun σ' v' => σ' = σ ∧ ∃ o, v' = iz (thn o 0) ∧ (∀ i, o = some i → ∃ e, T[i]? = some e ∧ p i ∧ (i = j ∨ rS T e.2.2 j) ∧ ∀ i' e', i' < i → T[i']? = some e' → ¬ (p i' ∧ (i' = j ∨ rS T e'.2.2 j))) ∧ (o = none → ∀ i e, T[i]? = some e → ¬ (p i ∧ (i = j ∨ rS T e.2.2 j)))) :=
          fun hq => Hx.ret ⟨rfl, some k, by rw [thn_nI, Nat.zero_add], fun i h => by cases h; exact ⟨_, hg, hq.1, hq.2, hno⟩, fun h => by cases h⟩
        refine Hx.ce (bm_test hu (show k < 32 by omega)) (fun c2 => h35 (fun q => c2 q.1)) (fun c2 => ?_)
        have c2 := Classical.not_not.mp c2
        refine Hx.ce (sm_eq (by omega) (by omega)) (fun c3 => hyes ⟨c2, Or.inl c3⟩) (fun c3 => ?_)
        rw [sm_ckK h5]
        refine hx_bs ?_
        rw [cb_isUsing hU h5 hT hg hj]
        refine hx_cs (Hx.ce b01_0 (fun c4 => h35 (fun q => q.2.elim c3 c4)) (fun c4 => hyes ⟨c2, Or.inr (Classical.not_not.mp c4)⟩))
    obtain ⟨σ', v', e, rfl, o, rfl, h2, h3⟩ := hx
    exact ⟨o, e, h2, h3⟩
theorem Th_uniq {ns : List NE} {fs : List FE} (hN : Nod ns fs) {i j : Nat} {e : Th} (hi : (Ths ns fs)[i]? = some e) (hj : (Ths ns fs)[j]? = some e) : i = j := by
  have key : ∀ i, (Ths ns fs)[i]? = some e → e.1 = 0 ∧ fix (ns.map (·.1)) e.2.1 = some i ∨ e.1 = 1 ∧ ∃ k, fix (fs.map (·.1)) e.2.1 = some k ∧ i = ns.length + k := by
    intro i hi
    have hi' := hi
    rw [Ths_get] at hi'
    split at hi'
    · cases hf : ns[i]? with
      | none => rw [hf] at hi'; cases hi'
      | some e' =>
        rw [hf] at hi'
        have h0 : e.1 = 0 := by cases hi'; rfl
        exact Or.inl ⟨h0, (uS_name (it := (31, e.2.1, 0, 0, (0, 0, 0))) hN rfl).mp (uS_one.mpr ⟨e, hi, Or.inl ⟨h0, rfl⟩, rfl⟩)⟩
    · cases hf : fs[i - ns.length]? with
      | none => rw [hf] at hi'; cases hi'
      | some e' =>
        rw [hf] at hi'
        have h0 : e.1 = 1 := by cases hi'; rfl
        exact Or.inr ⟨h0, (uS_call (it := (33, e.2.1, 0, 0, (0, 0, 0))) hN rfl).mp (uS_one.mpr ⟨e, hi, Or.inr ⟨h0, rfl⟩, rfl⟩)⟩
  rcases key i hi with ⟨a1, a2⟩ | ⟨a1, k, a2, a3⟩ <;> rcases key j hj with ⟨b1, b2⟩ | ⟨b1, k', b2, b3⟩
  · rw [a2] at b2; cases b2; rfl
  · omega
  · omega
  · rw [a2] at b2; cases b2; omega
theorem rS_at {T : List Th} {l : List It} {j : Nat} {e : Th} (hj : T[j]? = some e) : rS T l j ↔ Rch T l e := ⟨fun ⟨e', h1, h2⟩ => by rw [hj] at h1; cases h1; exact h2, fun h => ⟨e, hj, h⟩⟩
theorem uS_at {T : List Th} {l : List It} {j : Nat} {e : Th} (hj : T[j]? = some e) : uS T l j ↔ usb l e.1 e.2.1 = true := ⟨fun ⟨e', h1, h2⟩ => by rw [hj] at h1; cases h1; exact h2, fun h => ⟨e, hj, h⟩⟩
theorem cb_firstTowards {σ : St} {x b j : Nat} {ns : List NE} {fs : List FE} {l : List It} {e : Th} {u : Int32} (hU : KUs σ x b (Ths ns fs)) (h5 : sK σ b = 5) (hT : (Ths ns fs).length ≤ 30) (hN : Nod ns fs) (hso : (Ths ns fs).Pairwise thlt) (hj : (Ths ns fs)[j]? = some e) (hu : Bm u (uS (Ths ns fs) l)) :
    ∃ o, fX0_firstTowards σ b u (nI j) = some (σ, iz (thn o 0)) ∧ (o.bind fun i => (Ths ns fs)[i]?) = pick (Ths ns fs) l e ∧ (∀ i, o = some i → ∃ y, (Ths ns fs)[i]? = some y) := by
  have hjl := (List.getElem?_eq_some_iff.mp hj).1
  obtain ⟨o, e1, e2, e3⟩ := cb_firstTowards_loop hU h5 hT (show j < 32 by omega) hu FU 0 (by show (Ths ns fs).length - 0 < 4294967296; omega) (Nat.zero_le _) (fun i e h => absurd h (Nat.not_lt_zero _))
  have hc : ∀ i y, (Ths ns fs)[i]? = some y → (uS (Ths ns fs) l i ∧ (i = j ∨ rS (Ths ns fs) y.2.2 j) ↔ cnd (Ths ns fs) l e y) := by
    intro i y hy
    unfold cnd
    rw [uS_at hy, rS_at hj]
    refine and_congr_right fun _ => or_congr_left ⟨fun h => ?_, fun h => ?_⟩
    · subst h
      rw [hy] at hj
      cases hj
      rfl
    · subst h
      exact Th_uniq hN hy hj
  refine ⟨o, by rw [n_fX0_firstTowards]; exact e1, ?_, fun i h => by obtain ⟨y, hy, _⟩ := e2 i h; exact ⟨y, hy⟩⟩
  cases o with
  | none =>
    refine (pick_none fun y hy hcy => ?_).symm
    obtain ⟨i, hi, rfl⟩ := List.mem_iff_getElem.mp hy
    have hg := List.getElem?_eq_getElem hi
    exact e3 rfl i _ hg ((hc i _ hg).mpr hcy)
  | some i =>
    obtain ⟨y, hy, h1, h2, h3⟩ := e2 i rfl
    show (Ths ns fs)[i]? = _
    rw [hy]
    refine (pick_eq hso (List.mem_of_getElem? hy) ((hc i y hy).mp ⟨h1, h2⟩) fun z hz hcz hlt => ?_).symm
    obtain ⟨i', hi', rfl⟩ := List.mem_iff_getElem.mp hz
    have hg := List.getElem?_eq_getElem hi'
    by_cases c : i' < i
    · exact h3 i' _ c hg ((hc i' _ hg).mpr hcz)
    · have hil := (List.getElem?_eq_some_iff.mp hy).1
      have hyi := (List.getElem?_eq_some_iff.mp hy).2
      by_cases c2 : i = i'
      · subst c2
        rw [hyi] at hlt
        unfold thlt at hlt
        omega
      · have := List.pairwise_iff_getElem.mp hso i i' hil hi' (by omega)
        rw [hyi] at this
        unfold thlt at this hlt
        omega
theorem cb_leadsTo {σ : St} {x b j : Nat} {ns : List NE} {fs : List FE} {l : List It} {e : Th} {u : Int32} (hU : KUs σ x b (Ths ns fs)) (h5 : sK σ b = 5) (hT : (Ths ns fs).length ≤ 30) (hN : Nod ns fs) (hso : (Ths ns fs).Pairwise thlt) (hj : (Ths ns fs)[j]? = some e) (hu : Bm u (uS (Ths ns fs) l)) :
    fX0_leadsTo σ b u (nI j) = some (σ, nI (b01 (pick (Ths ns fs) l e ≠ none))) := by
  obtain ⟨o, e1, e2, e3⟩ := cb_firstTowards hU h5 hT hN hso hj hu
  apply hx_eq
  rw [n_fX0_leadsTo, sm_ckK h5]
  refine hx_bs ?_
  rw [e1]
  refine hx_cs (Hx.ce (thn_m1 (fun k hk => by obtain ⟨y, hy⟩ := e3 k hk; have := (List.getElem?_eq_some_iff.mp hy).1; omega)) (fun c => ?_) (fun c => ?_))
  · subst c
    rw [b01_n (fun h => h e2.symm)]
    exact Hx.ret ⟨rfl, rfl⟩
  · cases o with
    | none => exact absurd rfl c
    | some i =>
      obtain ⟨y, hy⟩ := e3 i rfl
      rw [b01_p]
      · exact Hx.ret ⟨rfl, rfl⟩
      · rw [← e2]
        show (Ths ns fs)[i]? ≠ none
        rw [hy]
        exact fun h => by cases h
theorem cb_signedWordOf {σ : St} {x b na fa i : Nat} {ns : List NE} {fs : List FE} {e : Th} (hB : KBk σ x b na fa ns fs) (hi : (Ths ns fs)[i]? = some e) : fX0_signedWordOf σ b (nI i) = some (σ, iz (sgw e)) := by
  have hl := (List.getElem?_eq_some_iff.mp hi).1
  rw [Ths_len] at hl
  apply hx_eq
  rw [n_fX0_signedWordOf, (ob_f hB).2.2.2.2]
  refine hx_bs ?_
  rw [cb_toldAt hB hl]
  rw [Ths_get] at hi
  by_cases c : i < ns.length
  · rw [if_pos c] at hi ⊢
    rw [List.getElem?_eq_getElem c] at hi
    cases hi
    obtain ⟨t1, t2, t3, t4, t5, t6⟩ := (hB.2.2.2.1 i _ (List.getElem?_eq_getElem c)).k
    refine hx_cs (Hx.cs (fun q => absurd q t6) (fun _ => ?_))
    rw [t2]
    refine hx_bs (Hx.cs (fun _ => ?_) (fun q => absurd (by rw [sm_le (by omega) (by omega)]; omega) q))
    rw [t1]
    refine hx_bs (Hx.ret ⟨rfl, ?_⟩)
    rw [sm_iz]
    unfold sgw
    rw [if_pos rfl]
  · rw [if_neg c] at hi ⊢
    have hl2 : i - ns.length < fs.length := by omega
    rw [List.getElem?_eq_getElem hl2] at hi
    cases hi
    obtain ⟨hT, h0⟩ := hB.2.2.2.2 _ _ (List.getElem?_eq_getElem hl2)
    obtain ⟨t1, t2, t3, t4, t5, t6⟩ := hT.k
    have hnp := hT.2.2.1.2
    refine hx_cs (Hx.cs (fun q => absurd q t6) (fun _ => ?_))
    rw [t2]
    refine hx_bs (Hx.ce (sm_le (by omega) (by omega)) (fun q => by omega) (fun _ => ?_))
    rw [t1]
    refine hx_bs (Hx.ret ⟨rfl, ?_⟩)
    rw [sm_iz, iz_neg]
    unfold sgw
    rw [if_neg (by show ¬ (1 : Nat) = 0; omega)]
theorem cb_directFrom {σ : St} {x b i : Nat} {T : List Th} {e : Th} (hU : KUs σ x b T) (h5 : sK σ b = 5) (hT : T.length ≤ 30) (hi : T[i]? = some e) : ∃ v, fX0_directFrom σ b (nI i) = some (σ, v) ∧ Bm v (uS T e.2.2) := by
  obtain ⟨da, ra, f1, f2, a1, a2, hd⟩ := oU_f hU h5
  obtain ⟨v, w, l1, l2, m1, m2⟩ := hd i e hi hT
  have hl := (List.getElem?_eq_some_iff.mp hi).1
  refine ⟨v, ?_, m1⟩
  apply hx_eq
  rw [n_fX0_directFrom]
  refine Hx.ce (sm_lt (by omega) (by omega)) (fun c => by omega) (fun _ => ?_)
  simp only [f1, a1, l1, sm_bind]
  exact Hx.ce (sm_le (by omega) (by omega)) (fun c => by omega) (fun _ => Hx.ret ⟨rfl, rfl⟩)
theorem cb_firstReady_loop {σ : St} {x b na fa : Nat} {ns : List NE} {fs : List FE} {u : Int32} {p : Nat → Prop} (hB : KBk σ x b na fa ns fs) (hU : KUs σ x b (Ths ns fs)) (hu : Bm u p) : ∀ (n k : Nat), ns.length - k < n → k ≤ ns.length → (∀ i e, i < k → (Ths ns fs)[i]? = some e → ¬ (p i ∧ ∀ j, j < 32 → ¬ (rS (Ths ns fs) e.2.2 j ∧ p j))) →
    ∃ o, fX0_firstReady_2 n σ b u (nI k) = some (σ, iz (thn o 0)) ∧ (∀ i, o = some i → i < ns.length ∧ ∃ e, (Ths ns fs)[i]? = some e ∧ p i ∧ (∀ j, j < 32 → ¬ (rS (Ths ns fs) e.2.2 j ∧ p j)) ∧ ∀ i' e', i' < i → (Ths ns fs)[i']? = some e' → ¬ (p i' ∧ ∀ j, j < 32 → ¬ (rS (Ths ns fs) e'.2.2 j ∧ p j))) ∧ (o = none → ∀ i e, i < ns.length → (Ths ns fs)[i]? = some e → ¬ (p i ∧ ∀ j, j < 32 → ¬ (rS (Ths ns fs) e.2.2 j ∧ p j))) := by
  have h5 := hB.1.2.1
  have hln := hB.1.2.2
  have hTl := Ths_len ns fs
  obtain ⟨f1, f2, a1, a2, c5⟩ := ob_f hB
  obtain ⟨da, ra, g1, g2, _, _, hd⟩ := oU_f hU h5
  intro n
  induction n with
  | zero => intro k h; omega
  | succ n ih =>
    intro k hn hk hno
    have hx : Hx (fX0_firstReady_2 (n + 1) σ b u (nI k)) (fun σ' v' => σ' = σ ∧ ∃ o, v' = iz (thn o 0) ∧ (∀ i, o = some i → i < ns.length ∧ ∃ e, (Ths ns fs)[i]? = some e ∧ p i ∧ (∀ j, j < 32 → ¬ (rS (Ths ns fs) e.2.2 j ∧ p j)) ∧ ∀ i' e', i' < i → (Ths ns fs)[i']? = some e' → ¬ (p i' ∧ ∀ j, j < 32 → ¬ (rS (Ths ns fs) e'.2.2 j ∧ p j))) ∧ (o = none → ∀ i e, i < ns.length → (Ths ns fs)[i]? = some e → ¬ (p i ∧ ∀ j, j < 32 → ¬ (rS (Ths ns fs) e.2.2 j ∧ p j)))) := by
      rw [n_fX0_firstReady_2, f1]
      refine hx_bs ?_
      rw [a1]
      refine hx_bs (Hx.ce (sm_le (by omega) (by omega)) (fun c => ?_) (fun c => ?_))
      · exact Hx.ret ⟨rfl, none, rfl, fun i h => by (cases h), fun _ i e hi h1 => hno i e (by omega) h1⟩
      · have hk2 : k < (Ths ns fs).length := by omega
        have hg : (Ths ns fs)[k]? = some (Ths ns fs)[k] := List.getElem?_eq_getElem hk2
        obtain ⟨v, w, l1, l2, m1, m2⟩ := hd k _ hg (by omega)
        generalize (Ths ns fs)[k] = ek at *
        have h32 : ¬ (p k ∧ ∀ j, j < 32 → ¬ (rS (Ths ns fs) ek.2.2 j ∧ p j)) → Hx (fX0_firstReady_32 (fX0_firstReady_2 n) σ b u (nI k)) (fun σ' v' => σ' = σ ∧ ∃ o, v' = iz (thn o 0) ∧ (∀ i, o = some i → i < ns.length ∧ ∃ e, (Ths ns fs)[i]? = some e ∧ p i ∧ (∀ j, j < 32 → ¬ (rS (Ths ns fs) e.2.2 j ∧ p j)) ∧ ∀ i' e', i' < i → (Ths ns fs)[i']? = some e' → ¬ (p i' ∧ ∀ j, j < 32 → ¬ (rS (Ths ns fs) e'.2.2 j ∧ p j))) ∧ (o = none → ∀ i e, i < ns.length → (Ths ns fs)[i]? = some e → ¬ (p i ∧ ∀ j, j < 32 → ¬ (rS (Ths ns fs) e.2.2 j ∧ p j)))) := by
          intro hq
          obtain ⟨o, e1, e2, e3⟩ := ih (k + 1) (by omega) (by omega) (fun i e h1 h2 => by
            by_cases e9 : i = k
            · subst e9
              rw [hg] at h2
              cases h2
              exact hq
            · exact hno i e (by omega) h2)
          rw [n_fX0_firstReady_32]
          refine hx_nm ?_
          rw [sm_add, e1]
          exact Hx.ret ⟨rfl, o, rfl, e2, e3⟩
        refine Hx.ce (bm_test hu (show k < 32 by omega)) (fun c2 => h32 (fun q => c2 q.1)) (fun c2 => ?_)
        have c2 := Classical.not_not.mp c2
        rw [g2]
        refine hx_bs ?_
        rw [l2]
        refine hx_bs (Hx.ce (bm_z (bm_and m2 hu)) (fun c3 => ?_) (fun c3 => h32 (fun q => c3 q.2)))
        exact Hx.ret ⟨rfl, some k, by rw [thn_nI, Nat.zero_add], fun i h => by cases h; exact ⟨by omega, _, hg, c2, c3, hno⟩, fun h => by cases h⟩
    obtain ⟨σ', v', e, rfl, o, rfl, h2, h3⟩ := hx
    exact ⟨o, e, h2, h3⟩
theorem cb_firstReady {σ : St} {x b na fa : Nat} {ns : List NE} {fs : List FE} {u : Int32} {p : Nat → Prop} (hB : KBk σ x b na fa ns fs) (hU : KUs σ x b (Ths ns fs)) (hu : Bm u p) :
    ∃ o, fX0_firstReady σ b u = some (σ, iz (thn o 0)) ∧ (∀ i, o = some i → i < ns.length ∧ ∃ e, (Ths ns fs)[i]? = some e ∧ p i ∧ (∀ j, j < 32 → ¬ (rS (Ths ns fs) e.2.2 j ∧ p j)) ∧ ∀ i' e', i' < i → (Ths ns fs)[i']? = some e' → ¬ (p i' ∧ ∀ j, j < 32 → ¬ (rS (Ths ns fs) e'.2.2 j ∧ p j))) ∧ (o = none → ∀ i e, i < ns.length → (Ths ns fs)[i]? = some e → ¬ (p i ∧ ∀ j, j < 32 → ¬ (rS (Ths ns fs) e.2.2 j ∧ p j))) := by
  have hln := hB.1.2.2
  rw [n_fX0_firstReady]
  exact cb_firstReady_loop hB hU hu FU 0 (by show ns.length - 0 < 4294967296; omega) (Nat.zero_le _) (fun i e h => absurd h (Nat.not_lt_zero _))
