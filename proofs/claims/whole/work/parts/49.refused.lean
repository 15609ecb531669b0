/-! ===== what is asked ahead of all steps ===== -/
def oi : Option Nat → Int
  | none => -1
  | some k => k
theorem oi_b {o : Option Nat} {L : Nat} (h : ∀ k, o = some k → k ≤ L) : -1 ≤ oi o ∧ oi o ≤ L := by
  cases o with
  | none => exact ⟨by show (-1 : Int) ≤ -1; omega, by show (-1 : Int) ≤ _; omega⟩
  | some k => have := h k rfl; exact ⟨by show (-1 : Int) ≤ (k : Int); omega, by show (k : Int) ≤ _; omega⟩
def fnp (fs : List FE) (w : Nat) : Option Nat := (fix (fs.map (·.1)) w).bind fun k => fs[k]?.map (·.2.1)
noncomputable def vof (fs : List FE) (w : Nat) : Option Nat := if known w = 0 then fnp fs w else some (arity (known w))
noncomputable def iknown (ns : List NE) (fs : List FE) (it : It) : Bool := if it.1 = 31 then (fix (ns.map (·.1)) it.2.1).isSome else if it.1 = 33 then vof fs it.2.1 == some it.2.2.1 else true
noncomputable def ukf (ns : List NE) (fs : List FE) (a : Option Nat) (it : It) : Option Nat := if iknown ns fs it = true then a else match a with
  | none => some it.2.2.2.1
  | some p => if it.2.2.2.1 < p then some it.2.2.2.1 else some p
noncomputable def unk (ns : List NE) (fs : List FE) (l : List It) : Option Nat := l.foldl (ukf ns fs) none
theorem fnp_some {fs : List FE} {w np : Nat} (h : fnp fs w = some np) : ∃ k e, fix (fs.map (·.1)) w = some k ∧ fs[k]? = some e ∧ e.1 = w ∧ e.2.1 = np := by
  unfold fnp at h
  cases hk : fix (fs.map (·.1)) w with
  | none => rw [hk] at h; cases h
  | some k =>
    rw [hk] at h
    have hg := fix_get hk
    rw [List.getElem?_map] at hg
    cases he : fs[k]? with
    | none => rw [he] at hg; cases hg
    | some e =>
      rw [he] at hg
      simp [he] at h
      cases hg
      exact ⟨k, e, rfl, he, rfl, h⟩
theorem fix_none_np {fs : List FE} {w : Nat} (h : fix (fs.map (·.1)) w = none) : fnp fs w = none := by unfold fnp; rw [h]; rfl
theorem fix_some_np {fs : List FE} {w k : Nat} (h : fix (fs.map (·.1)) w = some k) : ∃ e, fs[k]? = some e ∧ e.1 = w ∧ fnp fs w = some e.2.1 := by
  have hg := fix_get h
  rw [List.getElem?_map] at hg
  cases he : fs[k]? with
  | none => rw [he] at hg; cases hg
  | some e =>
    rw [he] at hg
    cases hg
    refine ⟨e, rfl, rfl, ?_⟩
    unfold fnp
    rw [h]
    show (fs[k]?.map (·.2.1)) = _
    rw [he]
    rfl
theorem neg1 : (-1 : Int32) = iz (-1) := rfl
theorem neg1' : (-nI 1 : Int32) = iz (-1) := rfl
theorem rf_valuesOf {m vm w : Nat} {σ : St} {ns : List NE} {fs : List FE} (hm : MS σ m) (hB : Rbk σ m vm ns fs) (hw : w < 2147483648) : fX12_valuesOf σ m (nI w) = some (σ, iz (oi (vof fs w))) := by
  have kn := rf_known (σ := σ) hw
  have kb := known_b w
  have th := rf_thingF hm hw hB
  unfold fX12_valuesOf vof
  by_cases h0 : known w = 0
  · rw [if_pos h0]
    rw [h0] at kn
    cases hf : fix (fs.map (·.1)) w with
    | none =>
      rw [hf, show thn none 20 = -1 from rfl] at th
      rw [fix_none_np hf]
      (try simp (disch := first | assumption | exact Or.inr rfl | exact Or.inl rfl | ((repeat (first | apply MS_A | apply MS_I)) <;> assumption) | omega) only [sm_bind, sm_cb, sm_nm, lits, sm_add, sm_mul, sm_le, sm_lt, sm_eq, sm_div, sm_sub, mx_le, mx_lt, mx_eq, xm_le, xm_lt, xm_eq, iz_le, iz_lt, iz_eq, nb0, nb1, sA_wA_b, sA_wA_eq, Nat.zero_le, ↓reduceIte, not_true_eq_false, not_false_eq_true, eq_self, Nat.reduceEqDiff, Bool.false_eq_true, rf_ck, kn, th, Nat.le_refl, neg1'])
      rfl
    | some k =>
      obtain ⟨e, he, _, hnp⟩ := fix_some_np hf
      rw [hf, show iz (thn (some k) 20) = nI (20 + k) from (sm_iz _).symm] at th
      obtain ⟨_, _, d, b3, b4⟩ := hB.2.2 k e he
      obtain ⟨c1, c2, s, c3, c4, c5, c6⟩ := b4
      have hk10 : k < 10 := by
        have := (List.getElem?_eq_some_iff.mp he).1
        have := hB.lt
        omega
      have hne : ¬ (((20 + k : Nat) : Int) = -1) := by omega
      rw [hnp]
      (try simp (disch := first | assumption | exact Or.inr rfl | exact Or.inl rfl | ((repeat (first | apply MS_A | apply MS_I)) <;> assumption) | omega) only [sm_bind, sm_cb, sm_nm, lits, sm_add, sm_mul, sm_le, sm_lt, sm_eq, sm_div, sm_sub, mx_le, mx_lt, mx_eq, xm_le, xm_lt, xm_eq, iz_le, iz_lt, iz_eq, nb0, nb1, sA_wA_b, sA_wA_eq, Nat.zero_le, ↓reduceIte, not_true_eq_false, not_false_eq_true, eq_self, Nat.reduceEqDiff, Bool.false_eq_true, rf_ck, rf_defPar, ld_defPar, st_defPar, rf_def, ld_def, st_def, kn, th, Nat.le_refl, neg1', hne, b3, c5])
      rw [sm_iz]
      rfl
  · rw [if_neg h0]
    have hle : ¬ (known w ≤ 0) := by omega
    have ht2 := rf_hasTwo (σ := σ) (st := known w) (by omega)
    by_cases h2 : two (known w)
    · rw [ar_pos h2] at ht2 ⊢
      (try simp (disch := first | assumption | exact Or.inr rfl | exact Or.inl rfl | ((repeat (first | apply MS_A | apply MS_I)) <;> assumption) | omega) only [sm_bind, sm_cb, sm_nm, lits, sm_add, sm_mul, sm_le, sm_lt, sm_eq, sm_div, sm_sub, mx_le, mx_lt, mx_eq, xm_le, xm_lt, xm_eq, iz_le, iz_lt, iz_eq, nb0, nb1, sA_wA_b, sA_wA_eq, Nat.zero_le, ↓reduceIte, not_true_eq_false, not_false_eq_true, eq_self, Nat.reduceEqDiff, Bool.false_eq_true, rf_ck, kn, hle, ht2])
      rfl
    · rw [ar_neg h2] at ht2 ⊢
      (try simp (disch := first | assumption | exact Or.inr rfl | exact Or.inl rfl | ((repeat (first | apply MS_A | apply MS_I)) <;> assumption) | omega) only [sm_bind, sm_cb, sm_nm, lits, sm_add, sm_mul, sm_le, sm_lt, sm_eq, sm_div, sm_sub, mx_le, mx_lt, mx_eq, xm_le, xm_lt, xm_eq, iz_le, iz_lt, iz_eq, nb0, nb1, sA_wA_b, sA_wA_eq, Nat.zero_le, ↓reduceIte, not_true_eq_false, not_false_eq_true, eq_self, Nat.reduceEqDiff, Bool.false_eq_true, rf_ck, kn, hle, ht2])
      rfl
theorem rf_unknownAt_loop {m vm d en : Nat} {σ : St} {ns : List NE} {fs : List FE} (hm : MS σ m) (hB : Rbk σ m vm ns fs) (hd : d < 600) (hen : sA σ (m + 11) d = nI en) : ∀ (l : List It) (n k : Nat) (a : Option Nat), l.length < n → k + l.length = en → Its σ m vm k l → (∀ p, a = some p → p ≤ 200) →
    fX12_unknownAt_9 n σ m (nI d) (iz (oi a)) (nI k) = some (σ, iz (oi (l.foldl (ukf ns fs) a))) := by
  intro l
  induction l with
  | nil =>
    intro n k a hn hk hI ha
    obtain ⟨n, rfl⟩ : ∃ n', n = n' + 1 := ⟨n - 1, by simp at hn; omega⟩
    have hb := hI.1
    simp at hk hb
    have hke : en ≤ k := by omega
    rw [fX12_unknownAt_9]
    (try simp (disch := first | assumption | exact Or.inr rfl | exact Or.inl rfl | ((repeat (first | apply MS_A | apply MS_I)) <;> assumption) | omega) only [sm_bind, sm_cb, sm_nm, lits, sm_add, sm_mul, sm_le, sm_lt, sm_eq, sm_div, sm_sub, mx_le, mx_lt, mx_eq, xm_le, xm_lt, xm_eq, iz_le, iz_lt, iz_eq, nb0, nb1, sA_wA_b, sA_wA_eq, Nat.zero_le, ↓reduceIte, not_true_eq_false, not_false_eq_true, eq_self, Nat.reduceEqDiff, Bool.false_eq_true, rf_ck, rf_defEnd, ld_defEnd, st_defEnd, hen, hke])
    rfl
  | cons it l ih =>
    intro n k a hn hk hI ha
    obtain ⟨n, rfl⟩ : ∃ n', n = n' + 1 := ⟨n - 1, by simp at hn; omega⟩
    have hb := hI.1
    obtain ⟨⟨⟨g0, g1, g2, g3, g4⟩, i1, i2, i3, i4, i5⟩, hIr⟩ := hI.hd
    simp at hk hb hn
    have hke : ¬ en ≤ k := by omega
    have hab := oi_b (L := 200) ha
    rw [List.foldl_cons]
    have ha' : ∀ p, ukf ns fs a it = some p → p ≤ 200 := by
      intro p hp
      unfold ukf at hp
      split at hp
      · exact ha p hp
      · cases a with
        | none => cases hp; exact g4
        | some q =>
          simp only at hp
          have := ha q rfl
          split at hp <;> cases hp <;> omega
    have i9 := ih n (k + 1) (ukf ns fs a it) (by omega) (by omega) hIr ha'
    have e92 : ∀ b, b ≤ 1 → (b = if iknown ns fs it = true then 1 else 0) → fX12_unknownAt_92 (fX12_unknownAt_9 n) σ m (nI d) (iz (oi a)) (nI k) (nI b) = some (σ, iz (oi (l.foldl (ukf ns fs) (ukf ns fs a it)))) := by
      intro b hb1 hb2
      unfold fX12_unknownAt_92 fX12_unknownAt_112 fX12_unknownAt_119
      by_cases hkn : iknown ns fs it = true
      · rw [if_pos hkn] at hb2
        subst hb2
        have e : ukf ns fs a it = a := if_pos hkn
        rw [e] at i9 ⊢
        (try simp (disch := first | assumption | exact Or.inr rfl | exact Or.inl rfl | ((repeat (first | apply MS_A | apply MS_I)) <;> assumption) | omega) only [sm_bind, sm_cb, sm_nm, lits, sm_add, sm_mul, sm_le, sm_lt, sm_eq, sm_div, sm_sub, mx_le, mx_lt, mx_eq, xm_le, xm_lt, xm_eq, iz_le, iz_lt, iz_eq, nb0, nb1, sA_wA_b, sA_wA_eq, Nat.zero_le, ↓reduceIte, not_true_eq_false, not_false_eq_true, eq_self, Nat.reduceEqDiff, Bool.false_eq_true, rf_ck, i9])
      · rw [if_neg hkn] at hb2
        subst hb2
        cases a with
        | none =>
          have e : ukf ns fs none it = some it.2.2.2.1 := if_neg hkn
          rw [e] at i9 ⊢
          have i9' : fX12_unknownAt_9 n σ m (nI d) (nI it.2.2.2.1) (nI (k + 1)) = some (σ, iz (oi (l.foldl (ukf ns fs) (some it.2.2.2.1)))) := by rw [sm_iz]; exact i9
          rw [show oi none = -1 from rfl]
          (try simp (disch := first | assumption | exact Or.inr rfl | exact Or.inl rfl | ((repeat (first | apply MS_A | apply MS_I)) <;> assumption) | omega) only [sm_bind, sm_cb, sm_nm, lits, sm_add, sm_mul, sm_le, sm_lt, sm_eq, sm_div, sm_sub, mx_le, mx_lt, mx_eq, xm_le, xm_lt, xm_eq, iz_le, iz_lt, iz_eq, nb0, nb1, sA_wA_b, sA_wA_eq, Nat.zero_le, ↓reduceIte, not_true_eq_false, not_false_eq_true, eq_self, Nat.reduceEqDiff, Bool.false_eq_true, rf_ck, rf_where, ld_where, st_where, neg1', i5, i9'])
        | some p =>
          have hp := ha p rfl
          have e : ukf ns fs (some p) it = if it.2.2.2.1 < p then some it.2.2.2.1 else some p := if_neg hkn
          have hne : ¬ ((p : Int) = -1) := by omega
          rw [show iz (oi (some p)) = nI p from (sm_iz p).symm]
          by_cases hlt : it.2.2.2.1 < p
          · rw [e, if_pos hlt] at i9 ⊢
            have i9' : fX12_unknownAt_9 n σ m (nI d) (nI it.2.2.2.1) (nI (k + 1)) = some (σ, iz (oi (l.foldl (ukf ns fs) (some it.2.2.2.1)))) := by rw [sm_iz]; exact i9
            have hle : ¬ p ≤ it.2.2.2.1 := by omega
            (try simp (disch := first | assumption | exact Or.inr rfl | exact Or.inl rfl | ((repeat (first | apply MS_A | apply MS_I)) <;> assumption) | omega) only [sm_bind, sm_cb, sm_nm, lits, sm_add, sm_mul, sm_le, sm_lt, sm_eq, sm_div, sm_sub, mx_le, mx_lt, mx_eq, xm_le, xm_lt, xm_eq, iz_le, iz_lt, iz_eq, nb0, nb1, sA_wA_b, sA_wA_eq, Nat.zero_le, ↓reduceIte, not_true_eq_false, not_false_eq_true, eq_self, Nat.reduceEqDiff, Bool.false_eq_true, rf_ck, rf_where, ld_where, st_where, neg1', hne, i5, hle, i9'])
          · rw [e, if_neg hlt] at i9 ⊢
            have i9' : fX12_unknownAt_9 n σ m (nI d) (nI p) (nI (k + 1)) = some (σ, iz (oi (l.foldl (ukf ns fs) (some p)))) := by rw [sm_iz p]; exact i9
            have hle : p ≤ it.2.2.2.1 := by omega
            (try simp (disch := first | assumption | exact Or.inr rfl | exact Or.inl rfl | ((repeat (first | apply MS_A | apply MS_I)) <;> assumption) | omega) only [sm_bind, sm_cb, sm_nm, lits, sm_add, sm_mul, sm_le, sm_lt, sm_eq, sm_div, sm_sub, mx_le, mx_lt, mx_eq, xm_le, xm_lt, xm_eq, iz_le, iz_lt, iz_eq, nb0, nb1, sA_wA_b, sA_wA_eq, Nat.zero_le, ↓reduceIte, not_true_eq_false, not_false_eq_true, eq_self, Nat.reduceEqDiff, Bool.false_eq_true, rf_ck, rf_where, ld_where, st_where, neg1', hne, i5, hle, i9'])
    rw [fX12_unknownAt_9]
    unfold fX12_unknownAt_53 fX12_unknownAt_55 fX12_unknownAt_90
    by_cases h31 : it.1 = 31
    · have i3' := i3 (by omega)
      have th := rf_thingN hm g2 hB
      cases hf : fix (ns.map (·.1)) it.2.1 with
      | none =>
        rw [hf, show thn none 0 = -1 from rfl] at th
        have := e92 0 (by omega) (by unfold iknown; rw [if_pos h31, hf]; rfl)
        (try simp (disch := first | assumption | exact Or.inr rfl | exact Or.inl rfl | ((repeat (first | apply MS_A | apply MS_I)) <;> assumption) | omega) only [sm_bind, sm_cb, sm_nm, lits, sm_add, sm_mul, sm_le, sm_lt, sm_eq, sm_div, sm_sub, mx_le, mx_lt, mx_eq, xm_le, xm_lt, xm_eq, iz_le, iz_lt, iz_eq, nb0, nb1, sA_wA_b, sA_wA_eq, Nat.zero_le, ↓reduceIte, not_true_eq_false, not_false_eq_true, eq_self, Nat.reduceEqDiff, Bool.false_eq_true, rf_ck, rf_defEnd, ld_defEnd, st_defEnd, rf_item, ld_item, st_item, rf_which, ld_which, st_which, hen, hke, i1, h31, i3', th, neg1', this])
      | some t =>
        have ht20 : t < 20 := by
          have := fix_lt hf
          have := hB.lt
          simp at *
          omega
        have hne : ¬ (((0 + t : Nat) : Int) = -1) := by omega
        rw [hf, show iz (thn (some t) 0) = nI (0 + t) from (sm_iz _).symm] at th
        have := e92 1 (by omega) (by unfold iknown; rw [if_pos h31, hf]; rfl)
        (try simp (disch := first | assumption | exact Or.inr rfl | exact Or.inl rfl | ((repeat (first | apply MS_A | apply MS_I)) <;> assumption) | omega) only [sm_bind, sm_cb, sm_nm, lits, sm_add, sm_mul, sm_le, sm_lt, sm_eq, sm_div, sm_sub, mx_le, mx_lt, mx_eq, xm_le, xm_lt, xm_eq, iz_le, iz_lt, iz_eq, nb0, nb1, sA_wA_b, sA_wA_eq, Nat.zero_le, ↓reduceIte, not_true_eq_false, not_false_eq_true, eq_self, Nat.reduceEqDiff, Bool.false_eq_true, rf_ck, rf_defEnd, ld_defEnd, st_defEnd, rf_item, ld_item, st_item, rf_which, ld_which, st_which, hen, hke, i1, h31, i3', th, neg1', hne, this])
    · by_cases h33 : it.1 = 33
      · have i3' := i3 (by omega)
        have vo := rf_valuesOf hm hB g2
        have hvb : ∀ q, vof fs it.2.1 = some q → q ≤ 4 := by
          intro q hq
          unfold vof at hq
          split at hq
          · obtain ⟨t, e, f1, f2, f3, f4⟩ := fnp_some hq
            obtain ⟨_, _, _, _, b4⟩ := hB.2.2 t e f2
            rw [← f4]
            exact b4.2.1
          · cases hq
            by_cases h2 : two (known it.2.1)
            · rw [ar_pos h2]; omega
            · rw [ar_neg h2]; omega
        have hvi := oi_b (L := 4) hvb
        have hik : iknown ns fs it = (vof fs it.2.1 == some it.2.2.1) := by unfold iknown; rw [if_neg h31, if_pos h33]
        by_cases heq : vof fs it.2.1 = some it.2.2.1
        · have := e92 1 (by omega) (by rw [hik, heq, if_pos (by simp)])
          have hce : ((it.2.2.1 : Nat) : Int) = oi (vof fs it.2.1) := by rw [heq]; rfl
          (try simp (disch := first | assumption | exact Or.inr rfl | exact Or.inl rfl | ((repeat (first | apply MS_A | apply MS_I)) <;> assumption) | omega) only [sm_bind, sm_cb, sm_nm, lits, sm_add, sm_mul, sm_le, sm_lt, sm_eq, sm_div, sm_sub, mx_le, mx_lt, mx_eq, xm_le, xm_lt, xm_eq, iz_le, iz_lt, iz_eq, nb0, nb1, sA_wA_b, sA_wA_eq, Nat.zero_le, ↓reduceIte, not_true_eq_false, not_false_eq_true, eq_self, Nat.reduceEqDiff, Bool.false_eq_true, rf_ck, rf_defEnd, ld_defEnd, st_defEnd, rf_item, ld_item, st_item, rf_which, ld_which, st_which, rf_with, ld_with, st_with, hen, hke, i1, h31, h33, i3', i4, vo, hce, this])
        · have := e92 0 (by omega) (by rw [hik, if_neg (by simpa using heq)])
          have hce : ¬ (((it.2.2.1 : Nat) : Int) = oi (vof fs it.2.1)) := by
            intro h
            cases hv : vof fs it.2.1 with
            | none => rw [hv, show oi none = -1 from rfl] at h; omega
            | some q =>
              rw [hv, show oi (some q) = (q : Int) from rfl] at h
              apply heq
              rw [hv]
              congr 1
              omega
          (try simp (disch := first | assumption | exact Or.inr rfl | exact Or.inl rfl | ((repeat (first | apply MS_A | apply MS_I)) <;> assumption) | omega) only [sm_bind, sm_cb, sm_nm, lits, sm_add, sm_mul, sm_le, sm_lt, sm_eq, sm_div, sm_sub, mx_le, mx_lt, mx_eq, xm_le, xm_lt, xm_eq, iz_le, iz_lt, iz_eq, nb0, nb1, sA_wA_b, sA_wA_eq, Nat.zero_le, ↓reduceIte, not_true_eq_false, not_false_eq_true, eq_self, Nat.reduceEqDiff, Bool.false_eq_true, rf_ck, rf_defEnd, ld_defEnd, st_defEnd, rf_item, ld_item, st_item, rf_which, ld_which, st_which, rf_with, ld_with, st_with, hen, hke, i1, h31, h33, i3', i4, vo, hce, this])
      · have := e92 1 (by omega) (by unfold iknown; rw [if_neg h31, if_neg h33, if_pos rfl])
        (try simp (disch := first | assumption | exact Or.inr rfl | exact Or.inl rfl | ((repeat (first | apply MS_A | apply MS_I)) <;> assumption) | omega) only [sm_bind, sm_cb, sm_nm, lits, sm_add, sm_mul, sm_le, sm_lt, sm_eq, sm_div, sm_sub, mx_le, mx_lt, mx_eq, xm_le, xm_lt, xm_eq, iz_le, iz_lt, iz_eq, nb0, nb1, sA_wA_b, sA_wA_eq, Nat.zero_le, ↓reduceIte, not_true_eq_false, not_false_eq_true, eq_self, Nat.reduceEqDiff, Bool.false_eq_true, rf_ck, rf_defEnd, ld_defEnd, st_defEnd, rf_item, ld_item, st_item, rf_which, ld_which, st_which, hen, hke, i1, h31, h33, this])
theorem rf_unknownAt {m vm d np : Nat} {l : List It} {σ : St} {ns : List NE} {fs : List FE} (hm : MS σ m) (hB : Rbk σ m vm ns fs) (hD : Dfn σ m vm d l np) : fX12_unknownAt σ m (nI d) = some (σ, iz (oi (unk ns fs l))) := by
  obtain ⟨h0, h1, s, h2, h3, h4, h5⟩ := hD
  have := rf_unknownAt_loop hm hB h0 h3 l FU s none (by have := h5.1; unfold FU; omega) rfl h5 (fun p h => by cases h)
  rw [show oi none = -1 from rfl] at this
  unfold fX12_unknownAt
  (try simp (disch := first | assumption | exact Or.inr rfl | exact Or.inl rfl | ((repeat (first | apply MS_A | apply MS_I)) <;> assumption) | omega) only [sm_bind, sm_cb, sm_nm, lits, sm_add, sm_mul, sm_le, sm_lt, sm_eq, sm_div, sm_sub, mx_le, mx_lt, mx_eq, xm_le, xm_lt, xm_eq, iz_le, iz_lt, iz_eq, nb0, nb1, sA_wA_b, sA_wA_eq, Nat.zero_le, ↓reduceIte, not_true_eq_false, not_false_eq_true, eq_self, Nat.reduceEqDiff, Bool.false_eq_true, rf_ck, rf_defStart, ld_defStart, st_defStart, h2, neg1'])
  exact this
theorem unk_b {ns : List NE} {fs : List FE} {l : List It} (h : ∀ it ∈ l, it.2.2.2.1 ≤ 200) {p : Nat} (hp : unk ns fs l = some p) : p ≤ 200 := by
  have key : ∀ (l : List It) (a : Option Nat), (∀ it ∈ l, it.2.2.2.1 ≤ 200) → (∀ p, a = some p → p ≤ 200) → ∀ p, l.foldl (ukf ns fs) a = some p → p ≤ 200 := by
    intro l
    induction l with
    | nil => intro a _ ha p hp; exact ha p hp
    | cons it l ih =>
      intro a hl ha p hp
      rw [List.foldl_cons] at hp
      refine ih _ (fun x hx => hl x (List.mem_cons_of_mem _ hx)) (fun q hq => ?_) p hp
      have g4 := hl it List.mem_cons_self
      unfold ukf at hq
      split at hq
      · exact ha q hq
      · cases a with
        | none => cases hq; exact g4
        | some z =>
          simp only at hq
          have := ha z rfl
          split at hq <;> cases hq <;> omega
  exact key l none h (fun p h => by cases h) p hp
/-! ===== the order of a dictionary ===== -/
def wky : Nat → Nat → Nat
  | 0, w => w
  | n + 1, w => if 14348907 ≤ w then w else wky n (w * 27)
/-- the key of a word -/
def wkey (w : Nat) : Nat := wky 6 w
theorem rf_orderOf {σ : St} {w : Nat} (h0 : 0 < w) (h1 : w < 387420489) : fX12_orderOf σ (nI w) = some (σ, nI (wkey w)) := by
  have key : ∀ (k n w : Nat), k < n → 0 < w → w < 387420489 → 14348907 ≤ w * 27 ^ k → fX12_orderOf_2 n σ (nI w) = some (σ, nI (wky k w)) := by
    intro k
    induction k with
    | zero =>
      intro n w hn h0 h1 h2
      obtain ⟨n, rfl⟩ : ∃ n', n = n' + 1 := ⟨n - 1, by omega⟩
      have h3 : 14348907 ≤ w := by simpa using h2
      rw [fX12_orderOf_2]
      (try simp (disch := first | assumption | exact Or.inr rfl | exact Or.inl rfl | ((repeat (first | apply MS_A | apply MS_I)) <;> assumption) | omega) only [sm_bind, sm_cb, sm_nm, lits, sm_add, sm_mul, sm_le, sm_lt, sm_eq, sm_div, sm_sub, mx_le, mx_lt, mx_eq, xm_le, xm_lt, xm_eq, iz_le, iz_lt, iz_eq, nb0, nb1, sA_wA_b, sA_wA_eq, Nat.zero_le, ↓reduceIte, not_true_eq_false, not_false_eq_true, eq_self, Nat.reduceEqDiff, Bool.false_eq_true, rf_ck, h3])
      rfl
    | succ k ih =>
      intro n w hn h0 h1 h2
      obtain ⟨n, rfl⟩ : ∃ n', n = n' + 1 := ⟨n - 1, by omega⟩
      rw [fX12_orderOf_2]
      unfold wky
      by_cases h3 : 14348907 ≤ w
      · rw [if_pos h3]
        (try simp (disch := first | assumption | exact Or.inr rfl | exact Or.inl rfl | ((repeat (first | apply MS_A | apply MS_I)) <;> assumption) | omega) only [sm_bind, sm_cb, sm_nm, lits, sm_add, sm_mul, sm_le, sm_lt, sm_eq, sm_div, sm_sub, mx_le, mx_lt, mx_eq, xm_le, xm_lt, xm_eq, iz_le, iz_lt, iz_eq, nb0, nb1, sA_wA_b, sA_wA_eq, Nat.zero_le, ↓reduceIte, not_true_eq_false, not_false_eq_true, eq_self, Nat.reduceEqDiff, Bool.false_eq_true, rf_ck, h3])
      · rw [if_neg h3]
        have := ih n (w * 27) (by omega) (by omega) (by omega) (by rw [Nat.pow_succ] at h2; rw [Nat.mul_assoc, Nat.mul_comm 27]; exact h2)
        (try simp (disch := first | assumption | exact Or.inr rfl | exact Or.inl rfl | ((repeat (first | apply MS_A | apply MS_I)) <;> assumption) | omega) only [sm_bind, sm_cb, sm_nm, lits, sm_add, sm_mul, sm_le, sm_lt, sm_eq, sm_div, sm_sub, mx_le, mx_lt, mx_eq, xm_le, xm_lt, xm_eq, iz_le, iz_lt, iz_eq, nb0, nb1, sA_wA_b, sA_wA_eq, Nat.zero_le, ↓reduceIte, not_true_eq_false, not_false_eq_true, eq_self, Nat.reduceEqDiff, Bool.false_eq_true, rf_ck, h3, this])
  refine key 6 FU w (by unfold FU; omega) h0 h1 ?_
  have : w * 27 ^ 6 ≥ 1 * 27 ^ 6 := Nat.mul_le_mul_right _ h0
  omega
theorem wkey_b {w : Nat} (h1 : w < 387420489) : wkey w < 387420489 := by
  have key : ∀ (k w : Nat), w < 387420489 → wky k w < 387420489 := by
    intro k
    induction k with
    | zero => intro w h; exact h
    | succ k ih =>
      intro w h
      unfold wky
      split
      · exact h
      · exact ih _ (by omega)
  exact key 6 w h1
/-- words are words -/
def wd (w : Nat) : Prop := 0 < w ∧ w < 387420489
/-! ===== how many use a thing ===== -/
def usd (ns : List NE) (fs : List FE) (t : Nat) (e : Th) : Prop := ∃ o e', o < 30 ∧ o ≠ t ∧ tg ns fs o = some e' ∧ Rch (Ths ns fs) e'.2.2 e
theorem rf_users_loop {m vm t : Nat} {ns : List NE} {fs : List FE} {e : Th} (hte : tg ns fs t = some e) (ht : t < 30) : ∀ (n : Nat) (σ : St) (c o : Nat), MS σ m → Rbk σ m vm ns fs → 30 - o < n → o ≤ 30 → c ≤ o →
    Hx (fX12_users_4 n σ m (nI t) (nI c) (nI o)) fun σ' v => (∃ k, v = nI k ∧ k ≤ 30 ∧ (k = 0 ↔ c = 0 ∧ ¬ ∃ q e', o ≤ q ∧ q < 30 ∧ q ≠ t ∧ tg ns fs q = some e' ∧ Rch (Ths ns fs) e'.2.2 e)) ∧ rfM m [] [21] nV σ σ' := by
  intro n
  induction n with
  | zero => intro σ c o _ _ h; omega
  | succ n ih =>
    intro σ c o hm hB hn ho hc
    rw [fX12_users_4]
    unfold fX12_users_37 fX12_users_38
    by_cases h30 : 30 ≤ o
    · (try simp (disch := first | assumption | exact Or.inr rfl | exact Or.inl rfl | ((repeat (first | apply MS_A | apply MS_I)) <;> assumption) | omega) only [sm_bind, sm_cb, sm_nm, lits, sm_add, sm_mul, sm_le, sm_lt, sm_eq, sm_div, sm_sub, mx_le, mx_lt, mx_eq, xm_le, xm_lt, xm_eq, iz_le, iz_lt, iz_eq, nb0, nb1, sA_wA_b, sA_wA_eq, Nat.zero_le, ↓reduceIte, not_true_eq_false, not_false_eq_true, eq_self, Nat.reduceEqDiff, Bool.false_eq_true, rf_ck, h30])
      exact Hx.ret ⟨⟨c, rfl, by omega, ⟨fun h => ⟨h, fun ⟨q, _, h1, h2, _⟩ => by omega⟩, fun h => h.1⟩⟩, rfM.rf⟩
    · have skip : (∀ e', o ≠ t → tg ns fs o = some e' → ¬ Rch (Ths ns fs) e'.2.2 e) → ∀ σ1, MS σ1 m → Rbk σ1 m vm ns fs → rfM m [] [21] nV σ σ1 → Hx (fX12_users_4 n σ1 m (nI t) (nI c) (nI (o + 1))) fun σ' v => (∃ k, v = nI k ∧ k ≤ 30 ∧ (k = 0 ↔ c = 0 ∧ ¬ ∃ q e', o ≤ q ∧ q < 30 ∧ q ≠ t ∧ tg ns fs q = some e' ∧ Rch (Ths ns fs) e'.2.2 e)) ∧ rfM m [] [21] nV σ σ' := by
        intro hno σ1 hm1 hB1 hR1
        refine (ih σ1 c (o + 1) hm1 hB1 (by omega) (by omega) (by omega)).mo ?_
        rintro σ2 v ⟨⟨k, k1, k2, k3⟩, hR2⟩
        refine ⟨⟨k, k1, k2, k3.trans ⟨fun h => ⟨h.1, ?_⟩, fun h => ⟨h.1, ?_⟩⟩⟩, hR1.tr hR2⟩
        · rintro ⟨q, e', h1, h2, h3, h4, h5⟩
          by_cases hqo : q = o
          · subst hqo; exact hno e' h3 h4 h5
          · exact h.2 ⟨q, e', by omega, h2, h3, h4, h5⟩
        · rintro ⟨q, e', h1, h2⟩
          exact h.2 ⟨q, e', by omega, h2⟩
      have th := rf_isThere hm hB (show o < 30 by omega)
      by_cases hot : o = t
      · have h30t : ¬ 30 ≤ t := by omega
        (try simp (disch := first | assumption | exact Or.inr rfl | exact Or.inl rfl | ((repeat (first | apply MS_A | apply MS_I)) <;> assumption) | omega) only [sm_bind, sm_cb, sm_nm, lits, sm_add, sm_mul, sm_le, sm_lt, sm_eq, sm_div, sm_sub, mx_le, mx_lt, mx_eq, xm_le, xm_lt, xm_eq, iz_le, iz_lt, iz_eq, nb0, nb1, sA_wA_b, sA_wA_eq, Nat.zero_le, ↓reduceIte, not_true_eq_false, not_false_eq_true, eq_self, Nat.reduceEqDiff, Bool.false_eq_true, rf_ck, h30, h30t, hot, Nat.add_zero])
        have := skip (fun e' h => absurd hot h) σ hm hB rfM.rf
        rw [hot] at this
        exact this
      · cases hto : tg ns fs o with
        | none =>
          rw [hto] at th
          (try simp (disch := first | assumption | exact Or.inr rfl | exact Or.inl rfl | ((repeat (first | apply MS_A | apply MS_I)) <;> assumption) | omega) only [sm_bind, sm_cb, sm_nm, lits, sm_add, sm_mul, sm_le, sm_lt, sm_eq, sm_div, sm_sub, mx_le, mx_lt, mx_eq, xm_le, xm_lt, xm_eq, iz_le, iz_lt, iz_eq, nb0, nb1, sA_wA_b, sA_wA_eq, Nat.zero_le, ↓reduceIte, not_true_eq_false, not_false_eq_true, eq_self, Nat.reduceEqDiff, Bool.false_eq_true, rf_ck, h30, hot, th, Option.isSome_none, Nat.add_zero])
          exact skip (fun e' _ h => by rw [hto] at h; cases h) σ hm hB rfM.rf
        | some e' =>
          rw [hto] at th
          (try simp (disch := first | assumption | exact Or.inr rfl | exact Or.inl rfl | ((repeat (first | apply MS_A | apply MS_I)) <;> assumption) | omega) only [sm_bind, sm_cb, sm_nm, lits, sm_add, sm_mul, sm_le, sm_lt, sm_eq, sm_div, sm_sub, mx_le, mx_lt, mx_eq, xm_le, xm_lt, xm_eq, iz_le, iz_lt, iz_eq, nb0, nb1, sA_wA_b, sA_wA_eq, Nat.zero_le, ↓reduceIte, not_true_eq_false, not_false_eq_true, eq_self, Nat.reduceEqDiff, Bool.false_eq_true, rf_ck, h30, hot, th, Option.isSome_some])
          refine Hx.bd (rf_doesUse hm hB hto hte) ?_
          rintro σ1 v ⟨rfl, hR1⟩
          have hm1 := hR1.ms hm
          have hB1 := hB.keepM hR1 (by simp [Rnot]) (fun _ _ _ h => h)
          by_cases hr : Rch (Ths ns fs) e'.2.2 e
          · rw [b01_p hr]
            rw [if_neg (by decide)]
            (try simp (disch := first | assumption | exact Or.inr rfl | exact Or.inl rfl | ((repeat (first | apply MS_A | apply MS_I)) <;> assumption) | omega) only [sm_bind, sm_cb, sm_nm, lits, sm_add, sm_mul, sm_le, sm_lt, sm_eq, sm_div, sm_sub, mx_le, mx_lt, mx_eq, xm_le, xm_lt, xm_eq, iz_le, iz_lt, iz_eq, nb0, nb1, sA_wA_b, sA_wA_eq, Nat.zero_le, ↓reduceIte, not_true_eq_false, not_false_eq_true, eq_self, Nat.reduceEqDiff, Bool.false_eq_true, rf_ck])
            refine (ih σ1 (c + 1) (o + 1) hm1 hB1 (by omega) (by omega) (by omega)).mo ?_
            rintro σ2 v ⟨⟨k, k1, k2, k3⟩, hR2⟩
            refine ⟨⟨k, k1, k2, ⟨fun h => ?_, fun h => ?_⟩⟩, hR1.tr hR2⟩
            · have := (k3.mp h).1
              omega
            · exact absurd ⟨o, e', Nat.le_refl _, by omega, hot, hto, hr⟩ h.2
          · rw [b01_n hr]
            rw [if_pos rfl]
            (try simp (disch := first | assumption | exact Or.inr rfl | exact Or.inl rfl | ((repeat (first | apply MS_A | apply MS_I)) <;> assumption) | omega) only [sm_bind, sm_cb, sm_nm, lits, sm_add, sm_mul, sm_le, sm_lt, sm_eq, sm_div, sm_sub, mx_le, mx_lt, mx_eq, xm_le, xm_lt, xm_eq, iz_le, iz_lt, iz_eq, nb0, nb1, sA_wA_b, sA_wA_eq, Nat.zero_le, ↓reduceIte, not_true_eq_false, not_false_eq_true, eq_self, Nat.reduceEqDiff, Bool.false_eq_true, rf_ck, Nat.add_zero])
            exact skip (fun x _ h => by rw [hto] at h; cases h; exact hr) σ1 hm1 hB1 hR1
theorem rf_users {m vm t : Nat} {ns : List NE} {fs : List FE} {e : Th} {σ : St} (hm : MS σ m) (hB : Rbk σ m vm ns fs) (hte : tg ns fs t = some e) :
    Hx (fX12_users σ m (nI t)) fun σ' v => (∃ k, v = nI k ∧ k ≤ 30 ∧ (k = 0 ↔ ¬ usd ns fs t e)) ∧ rfM m [] [21] nV σ σ' := by
  have ht := (hB.pos hte).1
  unfold fX12_users
  refine (rf_users_loop hte ht FU σ 0 0 hm hB (by unfold FU; omega) (by omega) (by omega)).mo ?_
  rintro σ' v ⟨⟨k, k1, k2, k3⟩, hR⟩
  refine ⟨⟨k, k1, k2, k3.trans ⟨fun h h2 => ?_, fun h => ⟨rfl, fun h2 => ?_⟩⟩⟩, hR⟩
  · obtain ⟨o, e', a1, a2, a3, a4⟩ := h2
    exact h.2 ⟨o, e', by omega, a1, a2, a3, a4⟩
  · obtain ⟨o, e', a0, a1, a2, a3, a4⟩ := h2
    exact h ⟨o, e', a1, a2, a3, a4⟩
