/-! ===== the first thing that leads to a thing; the ring ===== -/
/-- ahead: names ahead of functions, then in the order of a dictionary -/
def thlt (a b : Th) : Prop := a.1 < b.1 ∨ a.1 = b.1 ∧ wkey a.2.1 < wkey b.2.1
def cnd (T : List Th) (l : List It) (e x : Th) : Prop := usb l x.1 x.2.1 = true ∧ (x = e ∨ Rch T x.2.2 e)
/-- the first of a sorted list that is so -/
noncomputable def pick (T : List Th) (l : List It) (e : Th) : Option Th := T.find? fun x => @decide (cnd T l e x) (Classical.propDecidable _)
theorem pick_eq {T : List Th} {l : List It} {e x : Th} (hs : T.Pairwise thlt) (hx : x ∈ T) (hc : cnd T l e x) (hmin : ∀ y ∈ T, cnd T l e y → ¬ thlt y x) : pick T l e = some x := by
  have key : ∀ (S : List Th), (∀ y ∈ S, y ∈ T) → S.Pairwise thlt → x ∈ S → S.find? (fun x => @decide (cnd T l e x) (Classical.propDecidable _)) = some x := by
    intro S
    induction S with
    | nil => intro _ _ h; cases h
    | cons y S ih =>
      intro hsub hp hxs
      rw [List.pairwise_cons] at hp
      rw [List.find?_cons]
      rcases List.mem_cons.mp hxs with h | h
      · subst h
        have : @decide (cnd T l e x) (Classical.propDecidable _) = true := @decide_eq_true _ (Classical.propDecidable _) hc
        rw [this]
      · have : @decide (cnd T l e y) (Classical.propDecidable _) = false := @decide_eq_false _ (Classical.propDecidable _) fun hcy => hmin y (hsub y List.mem_cons_self) hcy (hp.1 x h)
        rw [this]
        exact ih (fun z hz => hsub z (List.mem_cons_of_mem _ hz)) hp.2 h
  exact key T (fun y h => h) hs hx
theorem pick_none {T : List Th} {l : List It} {e : Th} (h : ∀ y ∈ T, ¬ cnd T l e y) : pick T l e = none := by
  unfold pick
  rw [List.find?_eq_none]
  intro y hy
  have : @decide (cnd T l e y) (Classical.propDecidable _) = false := @decide_eq_false _ (Classical.propDecidable _) (h y hy)
  rw [this]
  simp
theorem pick_some {T : List Th} {l : List It} {e x : Th} (h : pick T l e = some x) : x ∈ T ∧ cnd T l e x := by
  unfold pick at h
  refine ⟨List.mem_of_find?_eq_some h, ?_⟩
  have := List.find?_some h
  simp at this
  exact this
theorem Adj.congr {T T' : List Th} (h : ∀ e, e ∈ T ↔ e ∈ T') {l : List It} {e : Th} : Adj T l e ↔ Adj T' l e := by unfold Adj; rw [h]
theorem Rcn.congr {T T' : List Th} (h : ∀ e, e ∈ T ↔ e ∈ T') : ∀ {n : Nat} {l : List It} {e : Th}, Rcn T n l e ↔ Rcn T' n l e := by
  intro n
  induction n with
  | zero => intro l e; exact Adj.congr h
  | succ n ih =>
    intro l e
    unfold Rcn
    constructor
    · rintro ⟨x, h1, h2⟩; exact ⟨x, (Adj.congr h).mp h1, ih.mp h2⟩
    · rintro ⟨x, h1, h2⟩; exact ⟨x, (Adj.congr h).mpr h1, ih.mpr h2⟩
theorem Rch.congr {T T' : List Th} (h : ∀ e, e ∈ T ↔ e ∈ T') {l : List It} {e : Th} : Rch T l e ↔ Rch T' l e := by
  unfold Rch
  constructor
  · rintro ⟨n, h1⟩; exact ⟨n, (Rcn.congr h).mp h1⟩
  · rintro ⟨n, h1⟩; exact ⟨n, (Rcn.congr h).mpr h1⟩
theorem cnd.congr {T T' : List Th} (h : ∀ e, e ∈ T ↔ e ∈ T') {l : List It} {e x : Th} : cnd T l e x ↔ cnd T' l e x := by
  unfold cnd
  rw [Rch.congr h]
/-- all words are words -/
def Wds (ns : List NE) (fs : List FE) : Prop := (∀ e ∈ ns, wd e.1) ∧ ∀ e ∈ fs, wd e.1
theorem tg_wd {ns : List NE} {fs : List FE} {t : Nat} {e : Th} (hW : Wds ns fs) (h : tg ns fs t = some e) : wd e.2.1 := by
  unfold tg at h
  split at h
  · cases hn : ns[t]? with
    | none => rw [hn] at h; cases h
    | some x => rw [hn] at h; cases h; exact hW.1 x (List.mem_of_getElem? hn)
  · cases hn : fs[t - 20]? with
    | none => rw [hn] at h; cases h
    | some x => rw [hn] at h; cases h; exact hW.2 x (List.mem_of_getElem? hn)
/-- the best so far: none, or its place -/
def best (ns : List NE) (fs : List FE) (l : List It) (e : Th) (o : Nat) (its : Option Nat) : Prop := match its with
  | none => ∀ q y, q < o → tg ns fs q = some y → ¬ cnd (Ths ns fs) l e y
  | some i => i < o ∧ ∃ x, tg ns fs i = some x ∧ cnd (Ths ns fs) l e x ∧ ∀ q y, q < o → tg ns fs q = some y → cnd (Ths ns fs) l e y → ¬ thlt y x
theorem rf_leads_loop {m vm d np t : Nat} {ns : List NE} {fs : List FE} {l : List It} {e : Th} (hW : Wds ns fs) (hte : tg ns fs t = some e) (hinj : ∀ q, tg ns fs q = some e → q = t) : ∀ (n : Nat) (σ : St) (its : Option Nat) (o : Nat), MS σ m → Rbk σ m vm ns fs → Dfn σ m vm d l np → 30 - o < n → o ≤ 30 → best ns fs l e o its →
    Hx (fX12_leads_5 n σ m (nI d) (nI t) (iz (oi its)) (nI o)) fun σ' v => (∃ i, v = iz (oi i) ∧ best ns fs l e 30 i) ∧ rfM m [] [21] nV σ σ' := by
  intro n
  induction n with
  | zero => intro σ its o _ _ _ h; omega
  | succ n ih =>
    intro σ its o hm hB hD hn ho hb
    have ht := (hB.pos hte).1
    have hib : -1 ≤ oi its ∧ oi its < 30 := by
      cases its with
      | none => exact ⟨by show (-1 : Int) ≤ -1; omega, by show (-1 : Int) < 30; omega⟩
      | some i => have := hb.1; exact ⟨by show (-1 : Int) ≤ (i : Int); omega, by show (i : Int) < 30; omega⟩
    rw [fX12_leads_5]
    by_cases h30 : 30 ≤ o
    · (try simp (disch := first | assumption | exact Or.inr rfl | exact Or.inl rfl | ((repeat (first | apply MS_A | apply MS_I)) <;> assumption) | omega) only [sm_bind, sm_cb, sm_nm, lits, sm_add, sm_mul, sm_le, sm_lt, sm_eq, sm_div, sm_sub, mx_le, mx_lt, mx_eq, xm_le, xm_lt, xm_eq, iz_le, iz_lt, iz_eq, nb0, nb1, sA_wA_b, sA_wA_eq, Nat.zero_le, ↓reduceIte, not_true_eq_false, not_false_eq_true, eq_self, Nat.reduceEqDiff, Bool.false_eq_true, rf_ck, h30])
      have : o = 30 := by omega
      subst this
      exact Hx.ret ⟨⟨its, rfl, hb⟩, rfM.rf⟩
    · have skip : (∀ y, tg ns fs o = some y → cnd (Ths ns fs) l e y → match its with
          | none => False
          | some i => ∀ x, tg ns fs i = some x → ¬ thlt y x) → ∀ σ1, MS σ1 m → Rbk σ1 m vm ns fs → Dfn σ1 m vm d l np → rfM m [] [21] nV σ σ1 → Hx (fX12_leads_118 (fX12_leads_5 n) σ1 m (nI d) (nI t) (iz (oi its)) (nI o)) fun σ' v => (∃ i, v = iz (oi i) ∧ best ns fs l e 30 i) ∧ rfM m [] [21] nV σ σ' := by
        intro hno σ1 hm1 hB1 hD1 hR1
        unfold fX12_leads_118
        (try simp (disch := first | assumption | exact Or.inr rfl | exact Or.inl rfl | ((repeat (first | apply MS_A | apply MS_I)) <;> assumption) | omega) only [sm_bind, sm_cb, sm_nm, lits, sm_add, sm_mul, sm_le, sm_lt, sm_eq, sm_div, sm_sub, mx_le, mx_lt, mx_eq, xm_le, xm_lt, xm_eq, iz_le, iz_lt, iz_eq, nb0, nb1, sA_wA_b, sA_wA_eq, Nat.zero_le, ↓reduceIte, not_true_eq_false, not_false_eq_true, eq_self, Nat.reduceEqDiff, Bool.false_eq_true, rf_ck])
        refine (ih σ1 its (o + 1) hm1 hB1 hD1 (by omega) (by omega) ?_).mo ?_
        · cases its with
          | none =>
            intro q y hq hy hc
            by_cases hqo : q = o
            · subst hqo; exact hno y hy hc
            · exact hb q y (by omega) hy hc
          | some i =>
            obtain ⟨b1, x, b2, b3, b4⟩ := hb
            refine ⟨by omega, x, b2, b3, fun q y hq hy hc => ?_⟩
            by_cases hqo : q = o
            · subst hqo; exact hno y hy hc x b2
            · exact b4 q y (by omega) hy hc
        · rintro σ2 v ⟨h1, h2⟩
          exact ⟨h1, hR1.tr h2⟩
      have th := rf_isThere hm hB (show o < 30 by omega)
      cases hto : tg ns fs o with
      | none =>
        rw [hto] at th
        (try simp (disch := first | assumption | exact Or.inr rfl | exact Or.inl rfl | ((repeat (first | apply MS_A | apply MS_I)) <;> assumption) | omega) only [sm_bind, sm_cb, sm_nm, lits, sm_add, sm_mul, sm_le, sm_lt, sm_eq, sm_div, sm_sub, mx_le, mx_lt, mx_eq, xm_le, xm_lt, xm_eq, iz_le, iz_lt, iz_eq, nb0, nb1, sA_wA_b, sA_wA_eq, Nat.zero_le, ↓reduceIte, not_true_eq_false, not_false_eq_true, eq_self, Nat.reduceEqDiff, Bool.false_eq_true, rf_ck, h30, th, Option.isSome_none])
        exact skip (fun y h => by rw [hto] at h; cases h) σ hm hB hD rfM.rf
      | some y =>
        rw [hto] at th
        have hh := rf_hasDirectly hm hB hD hto
        have hd9 : d < 600 := hD.1
        -- a candidate
        have take : cnd (Ths ns fs) l e y → ∀ σ1, MS σ1 m → Rbk σ1 m vm ns fs → Dfn σ1 m vm d l np → rfM m [] [21] nV σ σ1 → Hx (fX12_leads_50 (fX12_leads_5 n) σ1 m (nI d) (nI t) (iz (oi its)) (nI o)) fun σ' v => (∃ i, v = iz (oi i) ∧ best ns fs l e 30 i) ∧ rfM m [] [21] nV σ σ' := by
          intro hc σ1 hm1 hB1 hD1 hR1
          have skip' : (∀ i, its = some i → ∀ x, tg ns fs i = some x → ¬ thlt y x) → its ≠ none → Hx (fX12_leads_118 (fX12_leads_5 n) σ1 m (nI d) (nI t) (iz (oi its)) (nI o)) fun σ' v => (∃ i, v = iz (oi i) ∧ best ns fs l e 30 i) ∧ rfM m [] [21] nV σ σ' := by
            intro h1 h2
            refine skip (fun z hz hcz => ?_) σ1 hm1 hB1 hD1 hR1
            rw [hto] at hz
            cases hz
            cases its with
            | none => exact h2 rfl
            | some i => exact fun x hx => h1 i rfl x hx
          have put : (∀ i x, its = some i → tg ns fs i = some x → thlt y x) → Hx (fX12_leads_118 (fX12_leads_5 n) σ1 m (nI d) (nI t) (nI o) (nI o)) fun σ' v => (∃ i, v = iz (oi i) ∧ best ns fs l e 30 i) ∧ rfM m [] [21] nV σ σ' := by
            intro hlt
            unfold fX12_leads_118
            (try simp (disch := first | assumption | exact Or.inr rfl | exact Or.inl rfl | ((repeat (first | apply MS_A | apply MS_I)) <;> assumption) | omega) only [sm_bind, sm_cb, sm_nm, lits, sm_add, sm_mul, sm_le, sm_lt, sm_eq, sm_div, sm_sub, mx_le, mx_lt, mx_eq, xm_le, xm_lt, xm_eq, iz_le, iz_lt, iz_eq, nb0, nb1, sA_wA_b, sA_wA_eq, Nat.zero_le, ↓reduceIte, not_true_eq_false, not_false_eq_true, eq_self, Nat.reduceEqDiff, Bool.false_eq_true, rf_ck])
            have := ih σ1 (some o) (o + 1) hm1 hB1 hD1 (by omega) (by omega) ⟨by omega, y, hto, hc, fun q z hq hz hcz hzy => ?_⟩
            · rw [show iz (oi (some o)) = nI o from (sm_iz o).symm] at this
              refine this.mo ?_
              rintro σ2 v ⟨h1, h2⟩
              exact ⟨h1, hR1.tr h2⟩
            · by_cases hqo : q = o
              · subst hqo
                rw [hto] at hz
                cases hz
                rcases hzy with h | h
                · omega
                · have := h.2
                  omega
              · cases its with
                | none => exact hb q z (by omega) hz hcz
                | some i =>
                  obtain ⟨b1, x, b2, b3, b4⟩ := hb
                  refine b4 q z (by omega) hz hcz ?_
                  have := hlt i x rfl b2
                  unfold thlt at *
                  omega
          unfold fX12_leads_50 fX12_leads_103 fX12_leads_67
          cases its with
          | none =>
            rw [show oi none = -1 from rfl]
            unfold fX12_leads_108
            (try simp (disch := first | assumption | exact Or.inr rfl | exact Or.inl rfl | ((repeat (first | apply MS_A | apply MS_I)) <;> assumption) | omega) only [sm_bind, sm_cb, sm_nm, lits, sm_add, sm_mul, sm_le, sm_lt, sm_eq, sm_div, sm_sub, mx_le, mx_lt, mx_eq, xm_le, xm_lt, xm_eq, iz_le, iz_lt, iz_eq, nb0, nb1, sA_wA_b, sA_wA_eq, Nat.zero_le, ↓reduceIte, not_true_eq_false, not_false_eq_true, eq_self, Nat.reduceEqDiff, Bool.false_eq_true, rf_ck, neg1'])
            exact put (fun i x h => by cases h)
          | some i =>
            obtain ⟨b1, x, b2, b3, b4⟩ := id hb
            have hne : ¬ ((i : Int) = -1) := by omega
            have oii : iz (oi (some i)) = nI i := (sm_iz i).symm
            obtain ⟨_, wo, _, _⟩ := hB1.pos hto
            obtain ⟨_, wi, _, _⟩ := hB1.pos b2
            have wdo := tg_wd hW hto
            have wdi := tg_wd hW b2
            have oo := rf_orderOf (σ := σ1) wdo.1 wdo.2
            have oi' := rf_orderOf (σ := σ1) wdi.1 wdi.2
            have kb1 := wkey_b wdo.2
            have kb2 := wkey_b wdi.2
            have ko := tg_kind hto
            have ki := tg_kind b2
            rw [oii] at skip' ⊢
            unfold fX12_leads_78 fX12_leads_107 fX12_leads_103 fX12_leads_108
            by_cases ho20 : o < 20
            · have hi20 : i < 20 := by omega
              have ho20' : ¬ 20 ≤ o := by omega
              have hi20' : ¬ 20 ≤ i := by omega
              rw [if_pos ho20] at ko
              rw [if_pos hi20] at ki
              by_cases hlt : wkey x.2.1 ≤ wkey y.2.1
              · (try simp (disch := first | assumption | exact Or.inr rfl | exact Or.inl rfl | ((repeat (first | apply MS_A | apply MS_I)) <;> assumption) | omega) only [sm_bind, sm_cb, sm_nm, lits, sm_add, sm_mul, sm_le, sm_lt, sm_eq, sm_div, sm_sub, mx_le, mx_lt, mx_eq, xm_le, xm_lt, xm_eq, iz_le, iz_lt, iz_eq, nb0, nb1, sA_wA_b, sA_wA_eq, Nat.zero_le, ↓reduceIte, not_true_eq_false, not_false_eq_true, eq_self, Nat.reduceEqDiff, Bool.false_eq_true, rf_ck, rf_word, ld_word, st_word, neg1', hne, ho20', hi20', wo, wi, oo, oi', hlt])
                exact skip' (fun j hj z hz hyz => by cases hj; rw [b2] at hz; cases hz; unfold thlt at hyz; omega) (by simp)
              · (try simp (disch := first | assumption | exact Or.inr rfl | exact Or.inl rfl | ((repeat (first | apply MS_A | apply MS_I)) <;> assumption) | omega) only [sm_bind, sm_cb, sm_nm, lits, sm_add, sm_mul, sm_le, sm_lt, sm_eq, sm_div, sm_sub, mx_le, mx_lt, mx_eq, xm_le, xm_lt, xm_eq, iz_le, iz_lt, iz_eq, nb0, nb1, sA_wA_b, sA_wA_eq, Nat.zero_le, ↓reduceIte, not_true_eq_false, not_false_eq_true, eq_self, Nat.reduceEqDiff, Bool.false_eq_true, rf_ck, rf_word, ld_word, st_word, neg1', hne, ho20', hi20', wo, wi, oo, oi', hlt])
                exact put (fun j z hj hz => by cases hj; rw [b2] at hz; cases hz; unfold thlt; omega)
            · have ho20' : 20 ≤ o := by omega
              rw [if_neg ho20] at ko
              by_cases hi20 : i < 20
              · have hi20' : ¬ 20 ≤ i := by omega
                rw [if_pos hi20] at ki
                (try simp (disch := first | assumption | exact Or.inr rfl | exact Or.inl rfl | ((repeat (first | apply MS_A | apply MS_I)) <;> assumption) | omega) only [sm_bind, sm_cb, sm_nm, lits, sm_add, sm_mul, sm_le, sm_lt, sm_eq, sm_div, sm_sub, mx_le, mx_lt, mx_eq, xm_le, xm_lt, xm_eq, iz_le, iz_lt, iz_eq, nb0, nb1, sA_wA_b, sA_wA_eq, Nat.zero_le, ↓reduceIte, not_true_eq_false, not_false_eq_true, eq_self, Nat.reduceEqDiff, Bool.false_eq_true, rf_ck, rf_word, ld_word, st_word, neg1', hne, ho20', hi20'])
                exact skip' (fun j hj z hz hyz => by cases hj; rw [b2] at hz; cases hz; unfold thlt at hyz; omega) (by simp)
              · have hi20' : 20 ≤ i := by omega
                rw [if_neg hi20] at ki
                by_cases hlt : wkey x.2.1 ≤ wkey y.2.1
                · (try simp (disch := first | assumption | exact Or.inr rfl | exact Or.inl rfl | ((repeat (first | apply MS_A | apply MS_I)) <;> assumption) | omega) only [sm_bind, sm_cb, sm_nm, lits, sm_add, sm_mul, sm_le, sm_lt, sm_eq, sm_div, sm_sub, mx_le, mx_lt, mx_eq, xm_le, xm_lt, xm_eq, iz_le, iz_lt, iz_eq, nb0, nb1, sA_wA_b, sA_wA_eq, Nat.zero_le, ↓reduceIte, not_true_eq_false, not_false_eq_true, eq_self, Nat.reduceEqDiff, Bool.false_eq_true, rf_ck, rf_word, ld_word, st_word, neg1', hne, ho20', hi20', wo, wi, oo, oi', hlt])
                  exact skip' (fun j hj z hz hyz => by cases hj; rw [b2] at hz; cases hz; unfold thlt at hyz; omega) (by simp)
                · (try simp (disch := first | assumption | exact Or.inr rfl | exact Or.inl rfl | ((repeat (first | apply MS_A | apply MS_I)) <;> assumption) | omega) only [sm_bind, sm_cb, sm_nm, lits, sm_add, sm_mul, sm_le, sm_lt, sm_eq, sm_div, sm_sub, mx_le, mx_lt, mx_eq, xm_le, xm_lt, xm_eq, iz_le, iz_lt, iz_eq, nb0, nb1, sA_wA_b, sA_wA_eq, Nat.zero_le, ↓reduceIte, not_true_eq_false, not_false_eq_true, eq_self, Nat.reduceEqDiff, Bool.false_eq_true, rf_ck, rf_word, ld_word, st_word, neg1', hne, ho20', hi20', wo, wi, oo, oi', hlt])
                  exact put (fun j z hj hz => by cases hj; rw [b2] at hz; cases hz; unfold thlt; omega)
        have noc : ¬ cnd (Ths ns fs) l e y → ∀ σ1, MS σ1 m → Rbk σ1 m vm ns fs → Dfn σ1 m vm d l np → rfM m [] [21] nV σ σ1 → Hx (fX12_leads_118 (fX12_leads_5 n) σ1 m (nI d) (nI t) (iz (oi its)) (nI o)) fun σ' v => (∃ i, v = iz (oi i) ∧ best ns fs l e 30 i) ∧ rfM m [] [21] nV σ σ' := by
          intro hnc
          exact skip (fun z hz hcz => by rw [hto] at hz; cases hz; exact absurd hcz hnc)
        by_cases hus : usb l y.1 y.2.1 = true
        · by_cases hot : o = t
          · have hye : y = e := by
              subst hot
              rw [hte] at hto
              cases hto
              rfl
            subst hot
            (try simp (disch := first | assumption | exact Or.inr rfl | exact Or.inl rfl | ((repeat (first | apply MS_A | apply MS_I)) <;> assumption) | omega) only [sm_bind, sm_cb, sm_nm, lits, sm_add, sm_mul, sm_le, sm_lt, sm_eq, sm_div, sm_sub, mx_le, mx_lt, mx_eq, xm_le, xm_lt, xm_eq, iz_le, iz_lt, iz_eq, nb0, nb1, sA_wA_b, sA_wA_eq, Nat.zero_le, ↓reduceIte, not_true_eq_false, not_false_eq_true, eq_self, Nat.reduceEqDiff, Bool.false_eq_true, rf_ck, h30, th, Option.isSome_some, hh, hus])
            exact take ⟨hus, Or.inl hye⟩ σ hm hB hD rfM.rf
          · (try simp (disch := first | assumption | exact Or.inr rfl | exact Or.inl rfl | ((repeat (first | apply MS_A | apply MS_I)) <;> assumption) | omega) only [sm_bind, sm_cb, sm_nm, lits, sm_add, sm_mul, sm_le, sm_lt, sm_eq, sm_div, sm_sub, mx_le, mx_lt, mx_eq, xm_le, xm_lt, xm_eq, iz_le, iz_lt, iz_eq, nb0, nb1, sA_wA_b, sA_wA_eq, Nat.zero_le, ↓reduceIte, not_true_eq_false, not_false_eq_true, eq_self, Nat.reduceEqDiff, Bool.false_eq_true, rf_ck, h30, th, Option.isSome_some, hh, hus, hot])
            refine Hx.bd (rf_doesUse hm hB hto hte) ?_
            rintro σ1 v ⟨rfl, hR1⟩
            have hm1 := hR1.ms hm
            have hB1 := hB.keepM hR1 (by simp [Rnot]) (fun _ _ _ h => h)
            have hD1 := hD.keepM hR1 (by simp) (fun _ _ _ h => h)
            by_cases hr : Rch (Ths ns fs) y.2.2 e
            · rw [b01_p hr, if_neg (by decide)]
              exact take ⟨hus, Or.inr hr⟩ σ1 hm1 hB1 hD1 hR1
            · rw [b01_n hr, if_pos rfl]
              refine noc ?_ σ1 hm1 hB1 hD1 hR1
              rintro ⟨_, h | h⟩
              · subst h; exact hot (hinj o hto)
              · exact hr h
        · (try simp (disch := first | assumption | exact Or.inr rfl | exact Or.inl rfl | ((repeat (first | apply MS_A | apply MS_I)) <;> assumption) | omega) only [sm_bind, sm_cb, sm_nm, lits, sm_add, sm_mul, sm_le, sm_lt, sm_eq, sm_div, sm_sub, mx_le, mx_lt, mx_eq, xm_le, xm_lt, xm_eq, iz_le, iz_lt, iz_eq, nb0, nb1, sA_wA_b, sA_wA_eq, Nat.zero_le, ↓reduceIte, not_true_eq_false, not_false_eq_true, eq_self, Nat.reduceEqDiff, Bool.false_eq_true, rf_ck, h30, th, Option.isSome_some, hh, hus])
          exact noc (fun h => hus h.1) σ hm hB hD rfM.rf
theorem rf_leads {m vm d np t : Nat} {ns : List NE} {fs : List FE} {T : List Th} {l : List It} {e : Th} {σ : St} (hT : T.Pairwise thlt) (hTm : ∀ e, e ∈ Ths ns fs ↔ e ∈ T) (hW : Wds ns fs) (hte : tg ns fs t = some e) (hinj : ∀ q, tg ns fs q = some e → q = t) (hm : MS σ m) (hB : Rbk σ m vm ns fs) (hD : Dfn σ m vm d l np) :
    Hx (fX12_leads σ m (nI d) (nI t)) fun σ' v => (∃ i : Option Nat, v = iz (oi i) ∧ i.bind (tg ns fs) = pick T l e ∧ ∀ j, i = some j → j < 30) ∧ rfM m [] [21] nV σ σ' := by
  unfold fX12_leads
  have := rf_leads_loop (d := d) (l := l) (np := np) hW hte hinj FU σ none 0 hm hB hD (by unfold FU; omega) (by omega) (fun q y hq => by omega)
  rw [show oi none = -1 from rfl] at this
  (try simp (disch := first | assumption | exact Or.inr rfl | exact Or.inl rfl | ((repeat (first | apply MS_A | apply MS_I)) <;> assumption) | omega) only [sm_bind, sm_cb, sm_nm, lits, sm_add, sm_mul, sm_le, sm_lt, sm_eq, sm_div, sm_sub, mx_le, mx_lt, mx_eq, xm_le, xm_lt, xm_eq, iz_le, iz_lt, iz_eq, nb0, nb1, sA_wA_b, sA_wA_eq, Nat.zero_le, ↓reduceIte, not_true_eq_false, not_false_eq_true, eq_self, Nat.reduceEqDiff, Bool.false_eq_true, rf_ck, neg1'])
  refine this.mo ?_
  rintro σ' v ⟨⟨i, h1, h2⟩, h3⟩
  have hlt := hB.lt
  refine ⟨⟨i, h1, ?_, ?_⟩, h3⟩
  · cases i with
    | none =>
      refine (pick_none ?_).symm
      intro y hy hc
      obtain ⟨q, hq, hqy⟩ := tg_of hlt.1 hlt.2 ((hTm y).mpr hy)
      exact h2 q y hq hqy ((cnd.congr hTm).mpr hc)
    | some i =>
      obtain ⟨b1, x, b2, b3, b4⟩ := h2
      show tg ns fs i = _
      rw [b2]
      refine (pick_eq hT ((hTm x).mp (tg_mem b2)) ((cnd.congr hTm).mp b3) ?_).symm
      intro y hy hc
      obtain ⟨q, hq, hqy⟩ := tg_of hlt.1 hlt.2 ((hTm y).mpr hy)
      exact b4 q y hq hqy ((cnd.congr hTm).mpr hc)
  · intro j hj
    subst hj
    exact h2.1
