/-! ===== the class' book: what is asked of it ===== -/
theorem cb_parametersOf {σ : St} {x b na fa i : Nat} {ns : List NE} {fs : List FE} {e : FE} (hB : KBk σ x b na fa ns fs) (he : fs[i]? = some e) : fX0_parametersOf σ b (nI (ns.length + i)) = some (σ, nI e.2.1) := by
  have hi := (List.getElem?_eq_some_iff.mp he).1
  obtain ⟨t1, t2, t3, t4, t5, t6⟩ := (hB.2.2.2.2 i e he).1.k
  apply hx_eq
  rw [n_fX0_parametersOf, (ob_f hB).2.2.2.2]
  refine hx_bs ?_
  rw [cb_toldAt hB (show ns.length + i < ns.length + fs.length by omega), if_neg (by omega), show ns.length + i - ns.length = i by omega]
  refine hx_cs (Hx.cs (fun c => absurd c t6) (fun _ => ?_))
  rw [t2]
  exact hx_bs (Hx.ret ⟨rfl, rfl⟩)
theorem thn_m1 {o : Option Nat} {b : Nat} (h : ∀ k, o = some k → b + k < 2147483648) : (iz (thn o b) = iz (-1)) = (o = none) := by
  cases o with
  | none => exact propext ⟨fun _ => rfl, fun _ => rfl⟩
  | some k =>
    have hk := h k rfl
    refine propext ⟨fun e => ?_, fun e => by cases e⟩
    have : iz (((b + k : Nat) : Int)) = iz (-1) := e
    rw [iz_eq (by omega) (by omega) (by omega) (by omega)] at this
    omega
theorem thn_nI {k b : Nat} : iz (thn (some k) b) = nI (b + k) := by rw [sm_iz]; rfl
theorem ckd_cases {it : It} (h : itb it) : (it.1 = 30 ∧ ckd it = 21) ∨ (it.1 = 31 ∧ ckd it = 22) ∨ (it.1 = 32 ∧ ckd it = 23) ∨ (it.1 = 33 ∧ known it.2.1 = 0 ∧ ckd it = 9) ∨ (it.1 = 33 ∧ known it.2.1 ≠ 0 ∧ ckd it = known it.2.1 ∧ 10 ≤ ckd it ∧ ckd it ≤ 20) ∨ (it.1 ≤ 8 ∧ ckd it = it.1) ∨ (34 ≤ it.1 ∧ it.1 < 100 ∧ ckd it = it.1) := by
  obtain ⟨h1, _, _, _, h5⟩ := h
  have hkb := known_b it.2.1
  by_cases c0 : it.1 = 30
  · exact Or.inl ⟨c0, by unfold ckd; rw [if_pos c0]⟩
  by_cases c1 : it.1 = 31
  · exact Or.inr (Or.inl ⟨c1, by unfold ckd; rw [if_neg c0, if_pos c1]⟩)
  by_cases c2 : it.1 = 32
  · exact Or.inr (Or.inr (Or.inl ⟨c2, by unfold ckd; rw [if_neg c0, if_neg c1, if_pos c2]⟩))
  by_cases c3 : it.1 = 33
  · by_cases c4 : known it.2.1 = 0
    · exact Or.inr (Or.inr (Or.inr (Or.inl ⟨c3, c4, by unfold ckd; rw [if_neg c0, if_neg c1, if_neg c2, if_pos c3, if_pos c4]⟩)))
    · have e : ckd it = known it.2.1 := by unfold ckd; rw [if_neg c0, if_neg c1, if_neg c2, if_pos c3, if_neg c4]
      exact Or.inr (Or.inr (Or.inr (Or.inr (Or.inl ⟨c3, c4, e, by omega, by omega⟩))))
  have e : ckd it = it.1 := by unfold ckd; rw [if_neg c0, if_neg c1, if_neg c2, if_neg c3]
  rcases h5 with h5 | h5
  · exact Or.inr (Or.inr (Or.inr (Or.inr (Or.inr (Or.inl ⟨h5, e⟩)))))
  · exact Or.inr (Or.inr (Or.inr (Or.inr (Or.inr (Or.inr ⟨by omega, h1, e⟩)))))
theorem ikn_other {ns : List NE} {fs : List FE} {it : It} (h31 : it.1 ≠ 31) (h33 : it.1 ≠ 33) : iknown ns fs it = true := by
  unfold iknown
  rw [if_neg h31, if_neg h33]
theorem cb_isKnown {σ : St} {x b na fa s j : Nat} {ns : List NE} {fs : List FE} {l : List It} {it : It} (hB : KBk σ x b na fa ns fs) (hs : KSum σ x s l) (hj : l[j]? = some it) : fX0_isKnown σ b s (nI j) = some (σ, nI (if iknown ns fs it = true then 1 else 0)) := by
  obtain ⟨ka, oa, pa, ca', na', nn, ⟨f1, f2, f3, f4, f5⟩, al1, al2, hnn, hi⟩ := hs.ac
  obtain ⟨hib, g2, g3, g4, g5, g6⟩ := hi j it hj
  have hcs := ckd_cases hib
  obtain ⟨b1, b2, b3, b4, b5⟩ := hib
  clear b5
  have hln := hB.1.2.2
  apply hx_eq
  rw [n_fX0_isKnown, f1]
  refine hx_bs ?_
  rw [g2]
  refine hx_bs ?_
  rcases hcs with ⟨c, e⟩ | ⟨c, e⟩ | ⟨c, e⟩ | ⟨c, c0, e⟩ | ⟨c, c0, e, e10, e20⟩ | ⟨c, e⟩ | ⟨c, c9, e⟩
  · rw [e, ikn_other (by omega) (by omega), if_pos rfl]
    refine Hx.ce (sm_eq (by omega) (by omega)) (fun q => by omega) (fun _ => ?_)
    refine Hx.ce (sm_eq (by omega) (by omega)) (fun q => by omega) (fun _ => ?_)
    refine Hx.ce (sm_lt (by omega) (by omega)) (fun q => by omega) (fun _ => ?_)
    refine Hx.ce (sm_lt (by omega) (by omega)) (fun q => ?_) (fun q => by omega)
    rw [n_fX0_isKnown_105]
    exact Hx.ret ⟨rfl, rfl⟩
  · rw [e]
    refine Hx.ce (sm_eq (by omega) (by omega)) (fun _ => ?_) (fun q => by omega)
    rw [f2]
    refine hx_bs ?_
    rw [g5 (by omega)]
    refine hx_bs ?_
    rw [(ob_f hB).2.2.2.2]
    refine hx_bs ?_
    rw [cb_findN hB b2]
    refine hx_cs (Hx.ce (thn_m1 (fun k hk => by have := fix_lt hk; rw [List.length_map] at this; omega)) (fun c2 => ?_) (fun c2 => ?_))
    · have e : iknown ns fs it = false := by
        unfold iknown
        rw [if_pos c, c2]; rfl
      rw [e]
      exact Hx.ret ⟨rfl, rfl⟩
    · have e : iknown ns fs it = true := by
        unfold iknown
        rw [if_pos c]
        cases h : fix (ns.map (·.1)) it.2.1 with
        | none => exact absurd h c2
        | some k => rfl
      rw [e]
      exact Hx.ret ⟨rfl, rfl⟩
  · rw [e, ikn_other (by omega) (by omega), if_pos rfl]
    refine Hx.ce (sm_eq (by omega) (by omega)) (fun q => by omega) (fun _ => ?_)
    refine Hx.ce (sm_eq (by omega) (by omega)) (fun q => by omega) (fun _ => ?_)
    refine Hx.ce (sm_lt (by omega) (by omega)) (fun q => by omega) (fun _ => ?_)
    refine Hx.ce (sm_lt (by omega) (by omega)) (fun q => ?_) (fun q => by omega)
    rw [n_fX0_isKnown_105]
    exact Hx.ret ⟨rfl, rfl⟩
  · rw [e]
    refine Hx.ce (sm_eq (by omega) (by omega)) (fun q => by omega) (fun _ => ?_)
    refine Hx.ce (sm_eq (by omega) (by omega)) (fun _ => ?_) (fun q => by omega)
    rw [f2]
    refine hx_bs ?_
    rw [g5 (by omega)]
    refine hx_bs ?_
    rw [(ob_f hB).2.2.2.2]
    refine hx_bs ?_
    rw [cb_findF hB b2]
    refine hx_cs (Hx.ce (thn_m1 (fun k hk => by have := fix_lt hk; rw [List.length_map] at this; omega)) (fun c2 => ?_) (fun c2 => ?_))
    · have e : iknown ns fs it = false := by
        unfold iknown vof
        rw [if_neg (by omega), if_pos c, if_pos c0, fix_none_np c2]; rfl
      rw [e]
      exact Hx.ret ⟨rfl, rfl⟩
    · cases h : fix (fs.map (·.1)) it.2.1 with
      | none => exact absurd h c2
      | some k =>
        obtain ⟨e, e1, e2, e3⟩ := fix_some_np h
        rw [(ob_f hB).2.2.2.2]
        refine hx_bs ?_
        rw [thn_nI, cb_parametersOf hB e1]
        refine hx_cs ?_
        rw [f4]
        refine hx_bs ?_
        rw [g4]
        have hnp := (hB.2.2.2.2 k e e1).1.2.2.1.2
        have ei : iknown ns fs it = (some e.2.1 == some it.2.2.1) := by
          unfold iknown vof
          rw [if_neg (by omega), if_pos c, if_pos c0, e3]
        rw [ei]
        refine hx_bs (Hx.ce (sm_eq (by omega) (by omega)) (fun c3 => ?_) (fun c3 => ?_))
        · rw [c3]
          exact Hx.ret ⟨rfl, by simp⟩
        · exact Hx.ret ⟨rfl, by simp [c3]⟩
  · refine Hx.ce (sm_eq (by omega) (by omega)) (fun q => by omega) (fun _ => ?_)
    refine Hx.ce (sm_eq (by omega) (by omega)) (fun q => by omega) (fun _ => ?_)
    refine Hx.ce (sm_lt (by omega) (by omega)) (fun q => by omega) (fun _ => ?_)
    refine Hx.ce (sm_lt (by omega) (by omega)) (fun q => by omega) (fun _ => ?_)
    rw [f4]
    refine hx_bs ?_
    rw [g4]
    refine hx_bs ?_
    rw [cx_valuesOf ⟨by omega, by omega⟩]
    have ei : iknown ns fs it = (some (arity (known it.2.1)) == some it.2.2.1) := by
      unfold iknown vof
      rw [if_neg (by omega), if_pos c, if_neg c0]
    have hab := arity_b (known it.2.1)
    rw [ei, e]
    refine hx_cs (Hx.ce (sm_eq (by omega) (by omega)) (fun c3 => ?_) (fun c3 => ?_))
    · rw [n_fX0_isKnown_105, c3]
      exact Hx.ret ⟨rfl, by simp⟩
    · have c4 : ¬ arity (known it.2.1) = it.2.2.1 := fun e => c3 e.symm
      exact Hx.ret ⟨rfl, by simp [c4]⟩
  · rw [e, ikn_other (by omega) (by omega), if_pos rfl]
    refine Hx.ce (sm_eq (by omega) (by omega)) (fun q => by omega) (fun _ => ?_)
    refine Hx.ce (sm_eq (by omega) (by omega)) (fun q => by omega) (fun _ => ?_)
    refine Hx.ce (sm_lt (by omega) (by omega)) (fun q => ?_) (fun q => by omega)
    rw [n_fX0_isKnown_105]
    exact Hx.ret ⟨rfl, rfl⟩
  · rw [e, ikn_other (by omega) (by omega), if_pos rfl]
    refine Hx.ce (sm_eq (by omega) (by omega)) (fun q => by omega) (fun _ => ?_)
    refine Hx.ce (sm_eq (by omega) (by omega)) (fun q => by omega) (fun _ => ?_)
    refine Hx.ce (sm_lt (by omega) (by omega)) (fun q => by omega) (fun _ => ?_)
    refine Hx.ce (sm_lt (by omega) (by omega)) (fun q => ?_) (fun q => by omega)
    rw [n_fX0_isKnown_105]
    exact Hx.ret ⟨rfl, rfl⟩
theorem cb_firstUnknown_loop {σ : St} {x b na fa s : Nat} {ns : List NE} {fs : List FE} {l : List It} (hB : KBk σ x b na fa ns fs) (hs : KSum σ x s l) : ∀ (n k : Nat) (a : Option Nat), l.length - k < n → k ≤ l.length → (∀ p, a = some p → p ≤ 200) → fX0_firstUnknown_4 n σ b s (iz (oi a)) (nI k) = some (σ, iz (oi ((l.drop k).foldl (ukf ns fs) a))) := by
  obtain ⟨ka, oa, pa, ca', na', nn, ⟨f1, f2, f3, f4, f5⟩, al1, al2, hnn, hi⟩ := hs.ac
  have hl := hs.1.2.2
  intro n
  induction n with
  | zero => intro k a h; omega
  | succ n ih =>
    intro k a hn hk ha
    apply hx_eq
    rw [n_fX0_firstUnknown_4, f1]
    refine hx_bs ?_
    rw [al1]
    refine hx_bs (Hx.ce (sm_le (by omega) (by omega)) (fun c => ?_) (fun c => ?_))
    · rw [List.drop_eq_nil_of_le c]
      exact Hx.ret ⟨rfl, rfl⟩
    · have hk2 : k < l.length := by omega
      have hj : l[k]? = some l[k] := List.getElem?_eq_getElem hk2
      obtain ⟨⟨b1, b2, b3, b4, b5⟩, g2, g3, g4, g5, g6⟩ := hi k _ hj
      rw [List.drop_eq_getElem_cons hk2]
      generalize l[k] = it at *
      simp only [List.foldl_cons]
      rw [(ob_f hB).2.2.2.2]
      refine hx_bs ?_
      rw [cb_isKnown hB hs hj]
      have h44 : ∀ (v : Int32) (a' : Option Nat), v = iz (oi a') → (∀ p, a' = some p → p ≤ 200) → ukf ns fs a it = a' → Hx (fX0_firstUnknown_44 (fX0_firstUnknown_4 n) σ b s v (nI k)) (fun σ' v' => σ' = σ ∧ v' = iz (oi ((l.drop (k + 1)).foldl (ukf ns fs) (ukf ns fs a it)))) := by
        intro v a' hv ha' he
        rw [n_fX0_firstUnknown_44]
        refine hx_nm ?_
        rw [sm_add, hv, ih (k + 1) a' (by omega) (by omega) ha', he]
        exact Hx.ret ⟨rfl, rfl⟩
      have h37 : ukf ns fs a it = some it.2.2.2.1 → Hx (fX0_firstUnknown_37 (fX0_firstUnknown_4 n) σ b s (nI k)) (fun σ' v' => σ' = σ ∧ v' = iz (oi ((l.drop (k + 1)).foldl (ukf ns fs) (ukf ns fs a it)))) := by
        intro he
        rw [n_fX0_firstUnknown_37, f3]
        refine hx_bs ?_
        rw [g3]
        exact hx_bs (h44 _ (some it.2.2.2.1) (by rw [sm_iz]; rfl) (fun p hp => by cases hp; exact b4) he)
      refine hx_cs (Hx.ce nb0 (fun c2 => ?_) (fun c2 => ?_))
      · have ob1 : (iz (oi a) = iz (-1)) = (a = none) := by
          cases a with
          | none => exact propext ⟨fun _ => rfl, fun _ => rfl⟩
          | some p =>
            have := ha p rfl
            refine propext ⟨fun e => ?_, fun e => by cases e⟩
            have : iz ((p : Nat) : Int) = iz (-1) := e
            rw [iz_eq (by omega) (by omega) (by omega) (by omega)] at this
            omega
        refine Hx.ce ob1 (fun c3 => ?_) (fun c3 => ?_)
        · subst c3
          refine h37 ?_
          unfold ukf
          rw [if_neg c2]
        · cases a with
          | none => exact absurd rfl c3
          | some p =>
            have hp := ha p rfl
            rw [f3]
            refine hx_bs ?_
            rw [g3, show iz (oi (some p)) = nI p from by rw [sm_iz]; rfl]
            refine hx_bs (Hx.ce (sm_le (by omega) (by omega)) (fun c4 => ?_) (fun c4 => ?_))
            · refine h44 _ (some p) (by rw [sm_iz]; rfl) ha ?_
              unfold ukf
              rw [if_neg c2]
              simp only
              rw [if_neg (by omega)]
            · refine h37 ?_
              unfold ukf
              rw [if_neg c2]
              simp only
              rw [if_pos (by omega)]
      · have c2 := Classical.not_not.mp c2
        refine h44 _ a rfl ha ?_
        unfold ukf
        rw [if_pos c2]
theorem cb_firstUnknown {σ : St} {x b na fa s : Nat} {ns : List NE} {fs : List FE} {l : List It} (hB : KBk σ x b na fa ns fs) (hs : KSum σ x s l) : fX0_firstUnknown σ b s = some (σ, iz (oi (unk ns fs l))) := by
  have hl := hs.1.2.2
  have := cb_firstUnknown_loop hB hs FU 0 none (by show l.length - 0 < 4294967296; omega) (Nat.zero_le _) (fun p h => by cases h)
  rw [List.drop_zero] at this
  rw [n_fX0_firstUnknown]
  exact this
