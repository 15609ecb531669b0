/-! ===== what uses what ===== -/
/-- a thing: 0 a name, 1 a function; its word; its items -/
abbrev Th := Nat × Nat × List It
def hit (f w : Nat) (it : It) : Bool := (f == 0 && it.1 == 31 || f == 1 && it.1 == 33) && it.2.1 == w
def usb (l : List It) (f w : Nat) : Bool := l.any (hit f w)
def Adj (T : List Th) (l : List It) (e : Th) : Prop := e ∈ T ∧ usb l e.1 e.2.1 = true
def Rcn (T : List Th) : Nat → List It → Th → Prop
  | 0, l, e => Adj T l e
  | n + 1, l, e => ∃ e', Adj T l e' ∧ Rcn T n e'.2.2 e
def Rch (T : List Th) (l : List It) (e : Th) : Prop := ∃ n, Rcn T n l e
theorem Rcn.snoc {T : List Th} : ∀ {n : Nat} {l : List It} {e e' : Th}, Rcn T n l e → Adj T e.2.2 e' → Rcn T (n + 1) l e' := by
  intro n
  induction n with
  | zero => intro l e e' h h'; exact ⟨e, h, h'⟩
  | succ n ih =>
    rintro l e e' ⟨x, h1, h2⟩ h'
    exact ⟨x, h1, ih h2 h'⟩
theorem Rch.one {T : List Th} {l : List It} {e : Th} (h : Adj T l e) : Rch T l e := ⟨0, h⟩
theorem Rch.snoc {T : List Th} {l : List It} {e e' : Th} (h : Rch T l e) (h' : Adj T e.2.2 e') : Rch T l e' := by
  obtain ⟨n, h⟩ := h
  exact ⟨n + 1, h.snoc h'⟩
theorem Rch.cons {T : List Th} {l : List It} {e e' : Th} (h : Adj T l e) (h' : Rch T e.2.2 e') : Rch T l e' := by
  obtain ⟨n, h'⟩ := h'
  exact ⟨n + 1, e, h, h'⟩
/-- what is closed holds all that is reached -/
theorem Rch.closed {T : List Th} {C : Th → Prop} (hC : ∀ e e', C e → Adj T e.2.2 e' → C e') : ∀ {l : List It} {e : Th}, (∀ e', Adj T l e' → C e') → Rch T l e → C e := by
  intro l e h0 ⟨n, h⟩
  induction n generalizing l with
  | zero => exact h0 e h
  | succ n ih =>
    obtain ⟨x, h1, h2⟩ := h
    exact ih (fun e' h' => hC x e' (h0 x h1) h') h2
noncomputable def b01 (p : Prop) : Nat := @ite _ p (Classical.propDecidable p) 1 0
theorem b01_p {p : Prop} (h : p) : b01 p = 1 := by unfold b01; exact if_pos h
theorem b01_n {p : Prop} (h : ¬ p) : b01 p = 0 := by unfold b01; exact if_neg h
theorem b01_le (p : Prop) : b01 p ≤ 1 := by
  by_cases h : p
  · rw [b01_p h]; omega
  · rw [b01_n h]; omega
theorem b01_0 {p : Prop} : (nI (b01 p) = nI 0) = ¬ p := by unfold b01; exact nb0
theorem b01_1 {p : Prop} : (nI (b01 p) = nI 1) = p := by unfold b01; exact nb1
/-- the reference's things: names from 0, functions from 20 on -/
def tg (ns : List NE) (fs : List FE) (t : Nat) : Option Th := if t < 20 then ns[t]?.map fun e => (0, e.1, e.2.1) else fs[t - 20]?.map fun e => (1, e.1, e.2.2)
def Ths (ns : List NE) (fs : List FE) : List Th := ns.map (fun e => (0, e.1, e.2.1)) ++ fs.map fun e => (1, e.1, e.2.2)
theorem tg_mem {ns : List NE} {fs : List FE} {t : Nat} {e : Th} (h : tg ns fs t = some e) : e ∈ Ths ns fs := by
  unfold tg at h
  unfold Ths
  split at h
  · cases hn : ns[t]? with
    | none => rw [hn] at h; cases h
    | some x =>
      rw [hn] at h
      cases h
      exact List.mem_append_left _ (List.mem_map.mpr ⟨x, List.mem_of_getElem? hn, rfl⟩)
  · cases hn : fs[t - 20]? with
    | none => rw [hn] at h; cases h
    | some x =>
      rw [hn] at h
      cases h
      exact List.mem_append_right _ (List.mem_map.mpr ⟨x, List.mem_of_getElem? hn, rfl⟩)
theorem tg_of {ns : List NE} {fs : List FE} {e : Th} (hn : ns.length ≤ 20) (hf : fs.length ≤ 10) (h : e ∈ Ths ns fs) : ∃ t, t < 30 ∧ tg ns fs t = some e := by
  unfold Ths at h
  rcases List.mem_append.mp h with h | h
  · obtain ⟨x, hx, rfl⟩ := List.mem_map.mp h
    obtain ⟨i, hi, e⟩ := List.getElem_of_mem hx
    refine ⟨i, by omega, ?_⟩
    unfold tg
    rw [if_pos (by omega), List.getElem?_eq_getElem hi, e]
    rfl
  · obtain ⟨x, hx, rfl⟩ := List.mem_map.mp h
    obtain ⟨i, hi, e⟩ := List.getElem_of_mem hx
    refine ⟨20 + i, by omega, ?_⟩
    unfold tg
    rw [if_neg (by omega), Nat.add_sub_cancel_left, List.getElem?_eq_getElem hi, e]
    rfl
theorem tg_kind {ns : List NE} {fs : List FE} {t : Nat} {e : Th} (h : tg ns fs t = some e) : e.1 = if t < 20 then 0 else 1 := by
  unfold tg at h
  split at h
  · rename_i hc
    rw [if_pos hc]
    cases hn : ns[t]? with
    | none => rw [hn] at h; cases h
    | some x => rw [hn] at h; cases h; rfl
  · rename_i hc
    rw [if_neg hc]
    cases hn : fs[t - 20]? with
    | none => rw [hn] at h; cases h
    | some x => rw [hn] at h; cases h; rfl
/-- where a thing stands in the reference -/
theorem Rbk.pos {σ : St} {m vm t : Nat} {ns : List NE} {fs : List FE} {e : Th} (hB : Rbk σ m vm ns fs) (h : tg ns fs t = some e) : t < 30 ∧ sA σ (m + 18) t = nI e.2.1 ∧ e.2.1 < 2147483648 ∧ ∃ d np, sA σ (m + 19) t = nI d ∧ Dfn σ m vm d e.2.2 np := by
  obtain ⟨⟨a1, a2, a3, a4⟩, h2, h3⟩ := hB
  unfold tg at h
  split at h
  · cases hn : ns[t]? with
    | none => rw [hn] at h; cases h
    | some x =>
      rw [hn] at h
      cases h
      obtain ⟨b1, b2, ⟨d, b3, b4⟩, _⟩ := h2 t x hn
      exact ⟨by omega, b1, b2, d, 0, b3, b4⟩
  · cases hn : fs[t - 20]? with
    | none => rw [hn] at h; cases h
    | some x =>
      rw [hn] at h
      cases h
      have := (List.getElem?_eq_some_iff.mp hn).1
      obtain ⟨b1, b2, d, b3, b4⟩ := h3 (t - 20) x hn
      rw [show 20 + (t - 20) = t by omega] at b1 b3
      exact ⟨by omega, b1, b2, d, _, b3, b4⟩
theorem rf_isThere {m vm t : Nat} {σ : St} {ns : List NE} {fs : List FE} (hm : MS σ m) (hB : Rbk σ m vm ns fs) (ht : t < 30) : fX12_isThere σ m (nI t) = some (σ, nI (if (tg ns fs t).isSome then 1 else 0)) := by
  obtain ⟨⟨a1, a2, a3, a4⟩, _⟩ := hB
  have a1' : sI σ (fid 16 40) m = nI ns.length := a1
  have a3' : sI σ (fid 16 41) m = nI fs.length := a3
  unfold fX12_isThere tg
  by_cases h : t < 20
  · have h9 : ¬ 20 ≤ t := by omega
    by_cases hc : ns.length ≤ t
    · have e : ns[t]? = none := List.getElem?_eq_none hc
      rw [if_pos h, e]
      (try simp (disch := first | assumption | exact Or.inr rfl | exact Or.inl rfl | ((repeat (first | apply MS_A | apply MS_I)) <;> assumption) | omega) only [sm_bind, sm_cb, sm_nm, lits, sm_add, sm_mul, sm_le, sm_lt, sm_eq, sm_div, sm_sub, mx_le, mx_lt, mx_eq, xm_le, xm_lt, xm_eq, iz_le, iz_lt, iz_eq, nb0, nb1, sA_wA_b, sA_wA_eq, Nat.zero_le, ↓reduceIte, not_true_eq_false, not_false_eq_true, eq_self, Nat.reduceEqDiff, Bool.false_eq_true, rf_ck, rf_gI, rf_pI, h9, a1', hc])
      rfl
    · have e : ns[t]? = some ns[t] := List.getElem?_eq_getElem (by omega)
      rw [if_pos h, e]
      (try simp (disch := first | assumption | exact Or.inr rfl | exact Or.inl rfl | ((repeat (first | apply MS_A | apply MS_I)) <;> assumption) | omega) only [sm_bind, sm_cb, sm_nm, lits, sm_add, sm_mul, sm_le, sm_lt, sm_eq, sm_div, sm_sub, mx_le, mx_lt, mx_eq, xm_le, xm_lt, xm_eq, iz_le, iz_lt, iz_eq, nb0, nb1, sA_wA_b, sA_wA_eq, Nat.zero_le, ↓reduceIte, not_true_eq_false, not_false_eq_true, eq_self, Nat.reduceEqDiff, Bool.false_eq_true, rf_ck, rf_gI, rf_pI, h9, a1', hc])
      rfl
  · have h9 : 20 ≤ t := by omega
    by_cases hc : fs.length ≤ t - 20
    · have e : fs[t - 20]? = none := List.getElem?_eq_none hc
      rw [if_neg h, e]
      (try simp (disch := first | assumption | exact Or.inr rfl | exact Or.inl rfl | ((repeat (first | apply MS_A | apply MS_I)) <;> assumption) | omega) only [sm_bind, sm_cb, sm_nm, lits, sm_add, sm_mul, sm_le, sm_lt, sm_eq, sm_div, sm_sub, mx_le, mx_lt, mx_eq, xm_le, xm_lt, xm_eq, iz_le, iz_lt, iz_eq, nb0, nb1, sA_wA_b, sA_wA_eq, Nat.zero_le, ↓reduceIte, not_true_eq_false, not_false_eq_true, eq_self, Nat.reduceEqDiff, Bool.false_eq_true, rf_ck, rf_gI, rf_pI, h9, a3', hc])
      rfl
    · have e : fs[t - 20]? = some fs[t - 20] := List.getElem?_eq_getElem (by omega)
      rw [if_neg h, e]
      (try simp (disch := first | assumption | exact Or.inr rfl | exact Or.inl rfl | ((repeat (first | apply MS_A | apply MS_I)) <;> assumption) | omega) only [sm_bind, sm_cb, sm_nm, lits, sm_add, sm_mul, sm_le, sm_lt, sm_eq, sm_div, sm_sub, mx_le, mx_lt, mx_eq, xm_le, xm_lt, xm_eq, iz_le, iz_lt, iz_eq, nb0, nb1, sA_wA_b, sA_wA_eq, Nat.zero_le, ↓reduceIte, not_true_eq_false, not_false_eq_true, eq_self, Nat.reduceEqDiff, Bool.false_eq_true, rf_ck, rf_gI, rf_pI, h9, a3', hc])
      rfl
theorem rf_hasDirectly_loop {m vm d t w en : Nat} {σ : St} (hm : MS σ m) (ht : t < 30) (hw : w < 2147483648) (hW : sA σ (m + 18) t = nI w) (hd : d < 600) (hen : sA σ (m + 11) d = nI en) : ∀ (l : List It) (n k : Nat), l.length < n → k + l.length = en → Its σ m vm k l →
    fX12_hasDirectly_7 n σ m (nI d) (nI t) (nI k) = some (σ, nI (if usb l (if t < 20 then 0 else 1) w = true then 1 else 0)) := by
  intro l
  induction l with
  | nil =>
    intro n k hn hk hI
    obtain ⟨n, rfl⟩ : ∃ n', n = n' + 1 := ⟨n - 1, by simp at hn; omega⟩
    rw [fX12_hasDirectly_7]
    have hke : en ≤ k := by simp at hk; omega
    have hb := hI.1
    simp at hk hb
    (try simp (disch := first | assumption | exact Or.inr rfl | exact Or.inl rfl | ((repeat (first | apply MS_A | apply MS_I)) <;> assumption) | omega) only [sm_bind, sm_cb, sm_nm, lits, sm_add, sm_mul, sm_le, sm_lt, sm_eq, sm_div, sm_sub, mx_le, mx_lt, mx_eq, xm_le, xm_lt, xm_eq, iz_le, iz_lt, iz_eq, nb0, nb1, sA_wA_b, sA_wA_eq, Nat.zero_le, ↓reduceIte, not_true_eq_false, not_false_eq_true, eq_self, Nat.reduceEqDiff, Bool.false_eq_true, rf_ck, rf_defEnd, ld_defEnd, st_defEnd, hen, hke])
    rfl
  | cons it l ih =>
    intro n k hn hk hI
    obtain ⟨n, rfl⟩ : ∃ n', n = n' + 1 := ⟨n - 1, by simp at hn; omega⟩
    have hb := hI.1
    obtain ⟨⟨⟨g0, g1, g2, g3, g4⟩, i1, i2, i3, i4, i5⟩, hIr⟩ := hI.hd
    simp at hk hb hn
    have hke : ¬ en ≤ k := by omega
    have i9 := ih n (k + 1) (by omega) (by omega) hIr
    have hcons : usb (it :: l) (if t < 20 then 0 else 1) w = (hit (if t < 20 then 0 else 1) w it || usb l (if t < 20 then 0 else 1) w) := by simp [usb]
    rw [fX12_hasDirectly_7, hcons]
    unfold fX12_hasDirectly_51 fX12_hasDirectly_85
    by_cases h20 : t < 20
    · have h20' : ¬ 20 ≤ t := by omega
      simp only [h20, ↓reduceIte] at i9 ⊢
      by_cases h31 : it.1 = 31
      · have i3' := i3 (by omega)
        by_cases hwe : it.2.1 = w
        · have hh : hit 0 w it = true := by simp [hit, h31, hwe]
          (try simp (disch := first | assumption | exact Or.inr rfl | exact Or.inl rfl | ((repeat (first | apply MS_A | apply MS_I)) <;> assumption) | omega) only [sm_bind, sm_cb, sm_nm, lits, sm_add, sm_mul, sm_le, sm_lt, sm_eq, sm_div, sm_sub, mx_le, mx_lt, mx_eq, xm_le, xm_lt, xm_eq, iz_le, iz_lt, iz_eq, nb0, nb1, sA_wA_b, sA_wA_eq, Nat.zero_le, ↓reduceIte, not_true_eq_false, not_false_eq_true, eq_self, Nat.reduceEqDiff, Bool.false_eq_true, rf_ck, rf_defEnd, ld_defEnd, st_defEnd, rf_item, ld_item, st_item, rf_which, ld_which, st_which, rf_word, ld_word, st_word, hen, hke, h20', i1, h31, i3', hW, hwe, hh, Bool.true_or])
        · have hh : hit 0 w it = false := by simp [hit, hwe]
          (try simp (disch := first | assumption | exact Or.inr rfl | exact Or.inl rfl | ((repeat (first | apply MS_A | apply MS_I)) <;> assumption) | omega) only [sm_bind, sm_cb, sm_nm, lits, sm_add, sm_mul, sm_le, sm_lt, sm_eq, sm_div, sm_sub, mx_le, mx_lt, mx_eq, xm_le, xm_lt, xm_eq, iz_le, iz_lt, iz_eq, nb0, nb1, sA_wA_b, sA_wA_eq, Nat.zero_le, ↓reduceIte, not_true_eq_false, not_false_eq_true, eq_self, Nat.reduceEqDiff, Bool.false_eq_true, rf_ck, rf_defEnd, ld_defEnd, st_defEnd, rf_item, ld_item, st_item, rf_which, ld_which, st_which, rf_word, ld_word, st_word, hen, hke, h20, h20', i1, h31, i3', hW, hwe, hh, i9, Bool.false_or])
      · have hh : hit 0 w it = false := by simp [hit, h31]
        (try simp (disch := first | assumption | exact Or.inr rfl | exact Or.inl rfl | ((repeat (first | apply MS_A | apply MS_I)) <;> assumption) | omega) only [sm_bind, sm_cb, sm_nm, lits, sm_add, sm_mul, sm_le, sm_lt, sm_eq, sm_div, sm_sub, mx_le, mx_lt, mx_eq, xm_le, xm_lt, xm_eq, iz_le, iz_lt, iz_eq, nb0, nb1, sA_wA_b, sA_wA_eq, Nat.zero_le, ↓reduceIte, not_true_eq_false, not_false_eq_true, eq_self, Nat.reduceEqDiff, Bool.false_eq_true, rf_ck, rf_defEnd, ld_defEnd, st_defEnd, rf_item, ld_item, st_item, rf_which, ld_which, st_which, rf_word, ld_word, st_word, hen, hke, h20, h20', i1, h31, hh, i9, Bool.false_or])
    · have h20' : 20 ≤ t := by omega
      simp only [h20, ↓reduceIte] at i9 ⊢
      by_cases h33 : it.1 = 33
      · have i3' := i3 (by omega)
        by_cases hwe : it.2.1 = w
        · have hh : hit 1 w it = true := by simp [hit, h33, hwe]
          (try simp (disch := first | assumption | exact Or.inr rfl | exact Or.inl rfl | ((repeat (first | apply MS_A | apply MS_I)) <;> assumption) | omega) only [sm_bind, sm_cb, sm_nm, lits, sm_add, sm_mul, sm_le, sm_lt, sm_eq, sm_div, sm_sub, mx_le, mx_lt, mx_eq, xm_le, xm_lt, xm_eq, iz_le, iz_lt, iz_eq, nb0, nb1, sA_wA_b, sA_wA_eq, Nat.zero_le, ↓reduceIte, not_true_eq_false, not_false_eq_true, eq_self, Nat.reduceEqDiff, Bool.false_eq_true, rf_ck, rf_defEnd, ld_defEnd, st_defEnd, rf_item, ld_item, st_item, rf_which, ld_which, st_which, rf_word, ld_word, st_word, hen, hke, h20, h20', i1, h33, i3', hW, hwe, hh, Bool.true_or])
        · have hh : hit 1 w it = false := by simp [hit, hwe]
          (try simp (disch := first | assumption | exact Or.inr rfl | exact Or.inl rfl | ((repeat (first | apply MS_A | apply MS_I)) <;> assumption) | omega) only [sm_bind, sm_cb, sm_nm, lits, sm_add, sm_mul, sm_le, sm_lt, sm_eq, sm_div, sm_sub, mx_le, mx_lt, mx_eq, xm_le, xm_lt, xm_eq, iz_le, iz_lt, iz_eq, nb0, nb1, sA_wA_b, sA_wA_eq, Nat.zero_le, ↓reduceIte, not_true_eq_false, not_false_eq_true, eq_self, Nat.reduceEqDiff, Bool.false_eq_true, rf_ck, rf_defEnd, ld_defEnd, st_defEnd, rf_item, ld_item, st_item, rf_which, ld_which, st_which, rf_word, ld_word, st_word, hen, hke, h20, h20', i1, h33, i3', hW, hwe, hh, i9, Bool.false_or])
      · have hh : hit 1 w it = false := by simp [hit, h33]
        (try simp (disch := first | assumption | exact Or.inr rfl | exact Or.inl rfl | ((repeat (first | apply MS_A | apply MS_I)) <;> assumption) | omega) only [sm_bind, sm_cb, sm_nm, lits, sm_add, sm_mul, sm_le, sm_lt, sm_eq, sm_div, sm_sub, mx_le, mx_lt, mx_eq, xm_le, xm_lt, xm_eq, iz_le, iz_lt, iz_eq, nb0, nb1, sA_wA_b, sA_wA_eq, Nat.zero_le, ↓reduceIte, not_true_eq_false, not_false_eq_true, eq_self, Nat.reduceEqDiff, Bool.false_eq_true, rf_ck, rf_defEnd, ld_defEnd, st_defEnd, rf_item, ld_item, st_item, rf_which, ld_which, st_which, rf_word, ld_word, st_word, hen, hke, h20, h20', i1, h33, hh, i9, Bool.false_or])
theorem rf_hasDirectly {m vm d t np : Nat} {l : List It} {e : Th} {σ : St} {ns : List NE} {fs : List FE} (hm : MS σ m) (hB : Rbk σ m vm ns fs) (hD : Dfn σ m vm d l np) (ht : tg ns fs t = some e) :
    fX12_hasDirectly σ m (nI d) (nI t) = some (σ, nI (if usb l e.1 e.2.1 = true then 1 else 0)) := by
  obtain ⟨t30, hW, hw, -⟩ := hB.pos ht
  obtain ⟨h0, h1, s, h2, h3, h4, h5⟩ := hD
  have := rf_hasDirectly_loop hm t30 hw hW h0 h3 l FU s (by have := h5.1; unfold FU; omega) rfl h5
  rw [← tg_kind ht] at this
  unfold fX12_hasDirectly
  (try simp (disch := first | assumption | exact Or.inr rfl | exact Or.inl rfl | ((repeat (first | apply MS_A | apply MS_I)) <;> assumption) | omega) only [sm_bind, sm_cb, sm_nm, lits, sm_add, sm_mul, sm_le, sm_lt, sm_eq, sm_div, sm_sub, mx_le, mx_lt, mx_eq, xm_le, xm_lt, xm_eq, iz_le, iz_lt, iz_eq, nb0, nb1, sA_wA_b, sA_wA_eq, Nat.zero_le, ↓reduceIte, not_true_eq_false, not_false_eq_true, eq_self, Nat.reduceEqDiff, Bool.false_eq_true, rf_ck, rf_defStart, ld_defStart, st_defStart, h2, this])
/-! ===== all that something uses ===== -/
def UsA (σ : St) (m : Nat) (U : Nat → Bool) : Prop := ∀ t, t < 30 → sA σ (m + 21) t = nI (if U t = true then 1 else 0)
def cntU (U : Nat → Bool) : Nat := ((List.range 30).filter U).length
theorem cntU_le (U : Nat → Bool) : cntU U ≤ 30 := by
  unfold cntU
  have := List.length_filter_le U (List.range 30)
  simp at this
  exact this
def setU (U : Nat → Bool) (o : Nat) : Nat → Bool := fun t => if t = o then true else U t
theorem filt_set (U : Nat → Bool) (o : Nat) (h : U o = false) : ∀ n, ((List.range n).filter (setU U o)).length = ((List.range n).filter U).length + if o < n then 1 else 0 := by
  intro n
  induction n with
  | zero => simp
  | succ n ih =>
    rw [List.range_succ, List.filter_append, List.filter_append, List.length_append, List.length_append, ih]
    by_cases hn : n = o
    · subst hn
      simp [setU, h]
    · have : setU U o n = U n := if_neg hn
      by_cases hu : U n = true
      · simp [this, hu]
        by_cases ho : o < n
        · rw [if_pos ho, if_pos (by omega)]
        · rw [if_neg ho, if_neg (by omega)]
      · simp [this, hu]
        by_cases ho : o < n
        · rw [if_pos ho, if_pos (by omega)]
        · rw [if_neg ho, if_neg (by omega)]
theorem cntU_set {U : Nat → Bool} {o : Nat} (h : U o = false) (ho : o < 30) : cntU (setU U o) = cntU U + 1 := by
  unfold cntU
  rw [filt_set U o h 30, if_pos ho]
theorem UsA.set {σ : St} {m o : Nat} {U : Nat → Bool} (h : UsA σ m U) : UsA (wA σ (m + 21) o (nI 1)) m (setU U o) := by
  intro t ht
  by_cases e : t = o
  · subst e
    rw [sA_wA_eq]
    simp [setU]
  · rw [sA_wA_j e, h t ht]
    simp [setU, e]
/-- what holds between the passes -/
def SndU (T : List Th) (ns : List NE) (fs : List FE) (l : List It) (U : Nat → Bool) : Prop := (∀ t, t < 30 → U t = true → ∃ e, tg ns fs t = some e ∧ Rch T l e) ∧ ∀ t e, t < 30 → tg ns fs t = some e → usb l e.1 e.2.1 = true → U t = true
def ClsU (ns : List NE) (fs : List FE) (U : Nat → Bool) (t : Nat) : Prop := U t = true → ∀ e, tg ns fs t = some e → ∀ o e', o < 30 → tg ns fs o = some e' → usb e.2.2 e'.1 e'.2.1 = true → U o = true
theorem rf_fu_inner {m vm t : Nat} {ns : List NE} {fs : List FE} {l : List It} {e : Th} {α : St → Unit → Prop} (k44 : St → Nat → Int32 → Option (St × Unit)) (k52 : St → Nat → Int32 → Int32 → Option (St × Unit)) (ht : t < 30) (hte : tg ns fs t = some e) (hre : Rch (Ths ns fs) l e) :
    ∀ (n : Nat) (σ : St) (U : Nat → Bool) (b o : Nat), MS σ m → Rbk σ m vm ns fs → 30 - o < n → o ≤ 30 → b ≤ 1 → UsA σ m U → SndU (Ths ns fs) ns fs l U →
      (∀ (σ' : St) (U' : Nat → Bool) (b' : Nat), rfM m [] [21] nV σ σ' → b' ≤ 1 → UsA σ' m U' → SndU (Ths ns fs) ns fs l U' → (b' = 0 → U' = U ∧ b = 0 ∧ ∀ q e', o ≤ q → q < 30 → tg ns fs q = some e' → usb e.2.2 e'.1 e'.2.1 = true → U q = true) → (b' = 1 → b = 1 ∨ cntU U < cntU U') → cntU U ≤ cntU U' → Hx (k52 σ' m (nI b') (nI (t + 1))) α) →
      Hx (fX12_findsUsed_73 k44 k52 n σ m (nI b) (nI t) (nI o)) α := by
  intro n
  induction n with
  | zero => intro σ U b o _ _ h; omega
  | succ n ih =>
    intro σ U b o hm hB hn ho hb hU hS hk
    rw [fX12_findsUsed_73]
    unfold fX12_findsUsed_133 fX12_findsUsed_127
    by_cases hc : 30 ≤ o
    · (try simp (disch := first | assumption | exact Or.inr rfl | exact Or.inl rfl | ((repeat (first | apply MS_A | apply MS_I)) <;> assumption) | omega) only [sm_bind, sm_cb, sm_nm, lits, sm_add, sm_mul, sm_le, sm_lt, sm_eq, sm_div, sm_sub, mx_le, mx_lt, mx_eq, xm_le, xm_lt, xm_eq, iz_le, iz_lt, iz_eq, nb0, nb1, sA_wA_b, sA_wA_eq, Nat.zero_le, ↓reduceIte, not_true_eq_false, not_false_eq_true, eq_self, Nat.reduceEqDiff, Bool.false_eq_true, rf_ck, hc])
      exact hk σ U b rfM.rf hb hU hS (fun h => ⟨rfl, h, fun q e' h1 h2 => by omega⟩) (fun h => Or.inl h) (Nat.le_refl _)
    · have th := rf_isThere hm hB (show o < 30 by omega)
      have next : (∀ e', tg ns fs o = some e' → usb e.2.2 e'.1 e'.2.1 = true → U o = true) → Hx (fX12_findsUsed_73 k44 k52 n σ m (nI b) (nI t) (nI (o + 1))) α := by
        intro hok
        refine ih σ U b (o + 1) hm hB (by omega) (by omega) hb hU hS ?_
        intro σ' U' b' h1 h2 h3 h4 h5 h6 h7
        refine hk σ' U' b' h1 h2 h3 h4 (fun h => ?_) h6 h7
        obtain ⟨q1, q2, q3⟩ := h5 h
        refine ⟨q1, q2, fun q e' hq1 hq2 hq3 hq4 => ?_⟩
        by_cases hqo : q = o
        · subst hqo; exact hok e' hq3 hq4
        · exact q3 q e' (by omega) hq2 hq3 hq4
      cases hto : tg ns fs o with
      | none =>
        rw [hto] at th
        (try simp (disch := first | assumption | exact Or.inr rfl | exact Or.inl rfl | ((repeat (first | apply MS_A | apply MS_I)) <;> assumption) | omega) only [sm_bind, sm_cb, sm_nm, lits, sm_add, sm_mul, sm_le, sm_lt, sm_eq, sm_div, sm_sub, mx_le, mx_lt, mx_eq, xm_le, xm_lt, xm_eq, iz_le, iz_lt, iz_eq, nb0, nb1, sA_wA_b, sA_wA_eq, Nat.zero_le, ↓reduceIte, not_true_eq_false, not_false_eq_true, eq_self, Nat.reduceEqDiff, Bool.false_eq_true, rf_ck, hc, th, Option.isSome_none, Bool.false_eq_true])
        exact next (fun e' h => by rw [hto] at h; cases h)
      | some e' =>
        rw [hto] at th
        have uo := hU o (by omega)
        by_cases huo : U o = true
        · (try simp (disch := first | assumption | exact Or.inr rfl | exact Or.inl rfl | ((repeat (first | apply MS_A | apply MS_I)) <;> assumption) | omega) only [sm_bind, sm_cb, sm_nm, lits, sm_add, sm_mul, sm_le, sm_lt, sm_eq, sm_div, sm_sub, mx_le, mx_lt, mx_eq, xm_le, xm_lt, xm_eq, iz_le, iz_lt, iz_eq, nb0, nb1, sA_wA_b, sA_wA_eq, Nat.zero_le, ↓reduceIte, not_true_eq_false, not_false_eq_true, eq_self, Nat.reduceEqDiff, Bool.false_eq_true, rf_ck, rf_isUsed, ldb_isUsed, stb_isUsed, hc, th, Option.isSome_some, uo, huo])
          exact next (fun _ _ _ => huo)
        · obtain ⟨t30, _, _, d, np, hd, hD⟩ := hB.pos hte
          have hh := rf_hasDirectly hm hB hD hto
          by_cases hus : usb e.2.2 e'.1 e'.2.1 = true
          · have w : rfM m [] [21] nV σ (wA σ (m + 21) o (nI 1)) := rfM.wA (by simp) (by omega)
            (try simp (disch := first | assumption | exact Or.inr rfl | exact Or.inl rfl | ((repeat (first | apply MS_A | apply MS_I)) <;> assumption) | omega) only [sm_bind, sm_cb, sm_nm, lits, sm_add, sm_mul, sm_le, sm_lt, sm_eq, sm_div, sm_sub, mx_le, mx_lt, mx_eq, xm_le, xm_lt, xm_eq, iz_le, iz_lt, iz_eq, nb0, nb1, sA_wA_b, sA_wA_eq, Nat.zero_le, ↓reduceIte, not_true_eq_false, not_false_eq_true, eq_self, Nat.reduceEqDiff, Bool.false_eq_true, rf_ck, rf_isUsed, ldb_isUsed, stb_isUsed, rf_def, ld_def, st_def, hc, th, Option.isSome_some, uo, huo, hd, hh, hus, or_true])
            refine ih (wA σ (m + 21) o (nI 1)) (setU U o) 1 (o + 1) hm (hB.keepM w (by simp [Rnot]) (fun _ _ _ h => h)) (by omega) (by omega) (by omega) hU.set ?_ ?_
            · refine ⟨fun q hq1 hq2 => ?_, fun q x hq1 hq2 hq3 => ?_⟩
              · by_cases hqo : q = o
                · subst hqo
                  exact ⟨e', hto, hre.snoc ⟨tg_mem hto, hus⟩⟩
                · exact hS.1 q hq1 (by rw [← hq2]; exact (if_neg hqo).symm)
              · have := hS.2 q x hq1 hq2 hq3
                unfold setU
                split
                · rfl
                · exact this
            · have hcs := cntU_set (U := U) (o := o) (by simpa using huo) (by omega)
              intro σ' U' b' h1 h2 h3 h4 h5 h6 h7
              refine hk σ' U' b' (w.tr h1) h2 h3 h4 (fun h => ?_) (fun h => Or.inr (by omega)) (by omega)
              have := (h5 h).2.1
              omega
          · (try simp (disch := first | assumption | exact Or.inr rfl | exact Or.inl rfl | ((repeat (first | apply MS_A | apply MS_I)) <;> assumption) | omega) only [sm_bind, sm_cb, sm_nm, lits, sm_add, sm_mul, sm_le, sm_lt, sm_eq, sm_div, sm_sub, mx_le, mx_lt, mx_eq, xm_le, xm_lt, xm_eq, iz_le, iz_lt, iz_eq, nb0, nb1, sA_wA_b, sA_wA_eq, Nat.zero_le, ↓reduceIte, not_true_eq_false, not_false_eq_true, eq_self, Nat.reduceEqDiff, Bool.false_eq_true, rf_ck, rf_isUsed, ldb_isUsed, stb_isUsed, rf_def, ld_def, st_def, hc, th, Option.isSome_some, uo, huo, hd, hh, hus])
            exact next (fun x h1 h2 => by rw [hto] at h1; cases h1; exact absurd h2 hus)
theorem rf_fu_pass {m vm : Nat} {ns : List NE} {fs : List FE} {l : List It} {α : St → Unit → Prop} (k44 : St → Nat → Int32 → Option (St × Unit)) (σ0 : St) (U0 : Nat → Bool) :
    ∀ (n : Nat) (σ : St) (U : Nat → Bool) (b t : Nat), MS σ m → Rbk σ m vm ns fs → 30 - t < n → t ≤ 30 → b ≤ 1 → UsA σ m U → SndU (Ths ns fs) ns fs l U → rfM m [] [21] nV σ0 σ → (b = 0 → U = U0 ∧ ∀ q, q < t → ClsU ns fs U0 q) → (b = 1 → cntU U0 < cntU U) →
      (∀ (σ' : St) (U' : Nat → Bool) (b' : Nat), MS σ' m → Rbk σ' m vm ns fs → rfM m [] [21] nV σ0 σ' → b' ≤ 1 → UsA σ' m U' → SndU (Ths ns fs) ns fs l U' → (b' = 0 → U' = U0 ∧ ∀ q, q < 30 → ClsU ns fs U0 q) → (b' = 1 → cntU U0 < cntU U') → Hx (k44 σ' m (nI b')) α) →
      Hx (fX12_findsUsed_52 k44 n σ m (nI b) (nI t)) α := by
  intro n
  induction n with
  | zero => intro σ U b t _ _ h; omega
  | succ n ih =>
    intro σ U b t hm hB hn ht hb hU hS hR hb0 hb1 hk
    rw [fX12_findsUsed_52]
    by_cases hc : 30 ≤ t
    · (try simp (disch := first | assumption | exact Or.inr rfl | exact Or.inl rfl | ((repeat (first | apply MS_A | apply MS_I)) <;> assumption) | omega) only [sm_bind, sm_cb, sm_nm, lits, sm_add, sm_mul, sm_le, sm_lt, sm_eq, sm_div, sm_sub, mx_le, mx_lt, mx_eq, xm_le, xm_lt, xm_eq, iz_le, iz_lt, iz_eq, nb0, nb1, sA_wA_b, sA_wA_eq, Nat.zero_le, ↓reduceIte, not_true_eq_false, not_false_eq_true, eq_self, Nat.reduceEqDiff, Bool.false_eq_true, rf_ck, hc])
      exact hk σ U b hm hB hR hb hU hS (fun h => ⟨(hb0 h).1, fun q hq => (hb0 h).2 q (by omega)⟩) hb1
    · have ut := hU t (by omega)
      by_cases hut : U t = true
      · (try simp (disch := first | assumption | exact Or.inr rfl | exact Or.inl rfl | ((repeat (first | apply MS_A | apply MS_I)) <;> assumption) | omega) only [sm_bind, sm_cb, sm_nm, lits, sm_add, sm_mul, sm_le, sm_lt, sm_eq, sm_div, sm_sub, mx_le, mx_lt, mx_eq, xm_le, xm_lt, xm_eq, iz_le, iz_lt, iz_eq, nb0, nb1, sA_wA_b, sA_wA_eq, Nat.zero_le, ↓reduceIte, not_true_eq_false, not_false_eq_true, eq_self, Nat.reduceEqDiff, Bool.false_eq_true, rf_ck, rf_isUsed, ldb_isUsed, stb_isUsed, hc, ut, hut])
        obtain ⟨e, he1, he2⟩ := hS.1 t (by omega) hut
        refine rf_fu_inner k44 (fX12_findsUsed_52 k44 n) (by omega) he1 he2 FU σ U b 0 hm hB (by unfold FU; omega) (by omega) hb hU hS ?_
        intro σ' U' b' h1 h2 h3 h4 h5 h6 h7
        refine ih σ' U' b' (t + 1) (h1.ms hm) (hB.keepM h1 (by simp [Rnot]) (fun _ _ _ h => h)) (by omega) (by omega) h2 h3 h4 (hR.tr h1) (fun h => ?_) (fun h => ?_) hk
        · obtain ⟨q1, q2, q3⟩ := h5 h
          obtain ⟨r1, r2⟩ := hb0 q2
          refine ⟨q1.trans r1, fun q hq => ?_⟩
          by_cases hqt : q = t
          · subst hqt
            intro hu x hx o e' ho hoe hus
            rw [he1] at hx
            cases hx
            rw [← r1]
            exact q3 o e' (by omega) ho hoe hus
          · exact r2 q (by omega)
        · rcases h6 h with h9 | h9
          · have := hb1 h9
            omega
          · by_cases h8 : b = 0
            · have := (hb0 h8).1
              rw [this] at h9
              exact h9
            · have := hb1 (by omega)
              omega
      · unfold fX12_findsUsed_133
        (try simp (disch := first | assumption | exact Or.inr rfl | exact Or.inl rfl | ((repeat (first | apply MS_A | apply MS_I)) <;> assumption) | omega) only [sm_bind, sm_cb, sm_nm, lits, sm_add, sm_mul, sm_le, sm_lt, sm_eq, sm_div, sm_sub, mx_le, mx_lt, mx_eq, xm_le, xm_lt, xm_eq, iz_le, iz_lt, iz_eq, nb0, nb1, sA_wA_b, sA_wA_eq, Nat.zero_le, ↓reduceIte, not_true_eq_false, not_false_eq_true, eq_self, Nat.reduceEqDiff, Bool.false_eq_true, rf_ck, rf_isUsed, ldb_isUsed, stb_isUsed, hc, ut, hut])
        refine ih σ U b (t + 1) hm hB (by omega) (by omega) hb hU hS hR (fun h => ?_) hb1 hk
        obtain ⟨r1, r2⟩ := hb0 h
        refine ⟨r1, fun q hq => ?_⟩
        by_cases hqt : q = t
        · subst hqt
          intro hu
          rw [← r1] at hu
          exact absurd hu hut
        · exact r2 q (by omega)
theorem rf_fu_loop {m vm : Nat} {ns : List NE} {fs : List FE} {l : List It} : ∀ (n : Nat) (σ : St) (U : Nat → Bool) (b : Nat), MS σ m → Rbk σ m vm ns fs → b ≤ 1 → UsA σ m U → SndU (Ths ns fs) ns fs l U → 31 - cntU U + b < n → (b = 0 → ∀ q, q < 30 → ClsU ns fs U q) →
    Hx (fX12_findsUsed_44 n σ m (nI b)) (fun σ' _ => rfM m [] [21] nV σ σ' ∧ ∃ U', UsA σ' m U' ∧ SndU (Ths ns fs) ns fs l U' ∧ (∀ q, q < 30 → ClsU ns fs U' q)) := by
  intro n
  induction n with
  | zero => intro σ U b _ _ _ _ _ h; omega
  | succ n ih =>
    intro σ U b hm hB hb hU hS hn hcl
    rw [fX12_findsUsed_44]
    by_cases h0 : b = 0
    · subst h0
      (try simp (disch := first | assumption | exact Or.inr rfl | exact Or.inl rfl | ((repeat (first | apply MS_A | apply MS_I)) <;> assumption) | omega) only [sm_bind, sm_cb, sm_nm, lits, sm_add, sm_mul, sm_le, sm_lt, sm_eq, sm_div, sm_sub, mx_le, mx_lt, mx_eq, xm_le, xm_lt, xm_eq, iz_le, iz_lt, iz_eq, nb0, nb1, sA_wA_b, sA_wA_eq, Nat.zero_le, ↓reduceIte, not_true_eq_false, not_false_eq_true, eq_self, Nat.reduceEqDiff, Bool.false_eq_true, rf_ck])
      exact Hx.ret ⟨rfM.rf, U, hU, hS, hcl rfl⟩
    · have h1 : b = 1 := by omega
      subst h1
      (try simp (disch := first | assumption | exact Or.inr rfl | exact Or.inl rfl | ((repeat (first | apply MS_A | apply MS_I)) <;> assumption) | omega) only [sm_bind, sm_cb, sm_nm, lits, sm_add, sm_mul, sm_le, sm_lt, sm_eq, sm_div, sm_sub, mx_le, mx_lt, mx_eq, xm_le, xm_lt, xm_eq, iz_le, iz_lt, iz_eq, nb0, nb1, sA_wA_b, sA_wA_eq, Nat.zero_le, ↓reduceIte, not_true_eq_false, not_false_eq_true, eq_self, Nat.reduceEqDiff, Bool.false_eq_true, rf_ck])
      refine rf_fu_pass (vm := vm) (ns := ns) (fs := fs) (l := l) (fX12_findsUsed_44 n) σ U FU σ U 0 0 hm hB (by unfold FU; omega) (by omega) (by omega) hU hS rfM.rf (fun _ => ⟨rfl, fun q hq => by omega⟩) (fun h => by omega) ?_
      intro σ' U' b' h1 h2 h3 h4 h5 h6 h7 h8
      have hle := cntU_le U'
      refine (ih σ' U' b' h1 h2 h4 h5 h6 ?_ (fun h => ?_)).mo ?_
      · by_cases h9 : b' = 0
        · subst h9
          have := (h7 rfl).1
          rw [this]
          omega
        · have := h8 (by omega)
          omega
      · rw [(h7 h).1]
        exact (h7 h).2
      · rintro σ2 v ⟨q1, q2⟩
        exact ⟨h3.tr q1, q2⟩
def dirB (ns : List NE) (fs : List FE) (l : List It) (t : Nat) : Bool := match tg ns fs t with
  | some e => usb l e.1 e.2.1
  | none => false
theorem rf_fu_first {m vm d np : Nat} {ns : List NE} {fs : List FE} {l : List It} : ∀ (n : Nat) (σ : St) (t : Nat), MS σ m → Rbk σ m vm ns fs → Dfn σ m vm d l np → 30 - t < n → t ≤ 30 → (∀ q, q < t → sA σ (m + 21) q = nI (if dirB ns fs l q = true then 1 else 0)) →
    Hx (fX12_findsUsed_2 n σ m (nI d) (nI t)) (fun σ' _ => rfM m [] [21] nV σ σ' ∧ ∃ U', UsA σ' m U' ∧ SndU (Ths ns fs) ns fs l U' ∧ (∀ q, q < 30 → ClsU ns fs U' q)) := by
  intro n
  induction n with
  | zero => intro σ t _ _ _ h; omega
  | succ n ih =>
    intro σ t hm hB hD hn ht hU
    rw [fX12_findsUsed_2]
    by_cases hc : 30 ≤ t
    · (try simp (disch := first | assumption | exact Or.inr rfl | exact Or.inl rfl | ((repeat (first | apply MS_A | apply MS_I)) <;> assumption) | omega) only [sm_bind, sm_cb, sm_nm, lits, sm_add, sm_mul, sm_le, sm_lt, sm_eq, sm_div, sm_sub, mx_le, mx_lt, mx_eq, xm_le, xm_lt, xm_eq, iz_le, iz_lt, iz_eq, nb0, nb1, sA_wA_b, sA_wA_eq, Nat.zero_le, ↓reduceIte, not_true_eq_false, not_false_eq_true, eq_self, Nat.reduceEqDiff, Bool.false_eq_true, rf_ck, hc])
      refine rf_fu_loop (vm := vm) FU σ (dirB ns fs l) 1 hm hB (by omega) (fun q hq => hU q (by omega)) ⟨fun q hq h => ?_, fun q e hq h1 h2 => ?_⟩ (by unfold FU; omega) (fun h => by omega)
      · unfold dirB at h
        cases hq2 : tg ns fs q with
        | none => rw [hq2] at h; cases h
        | some e => rw [hq2] at h; exact ⟨e, rfl, Rch.one ⟨tg_mem hq2, h⟩⟩
      · unfold dirB
        rw [h1]
        exact h2
    · have th := rf_isThere hm hB (show t < 30 by omega)
      have hd9 : d < 600 := hD.1
      have put : ∀ b, b ≤ 1 → nI b = nI (if dirB ns fs l t = true then 1 else 0) → Hx (fX12_findsUsed_35 (fX12_findsUsed_2 n) σ m (nI d) (nI t) (m + 21) (nI t) (nI b)) (fun σ' _ => rfM m [] [21] nV σ σ' ∧ ∃ U', UsA σ' m U' ∧ SndU (Ths ns fs) ns fs l U' ∧ (∀ q, q < 30 → ClsU ns fs U' q)) := by
        intro b hb hbv
        have w : rfM m [] [21] nV σ (wA σ (m + 21) t (nI b)) := rfM.wA (by simp) (by omega)
        have hbz : nI b = nI 0 ∨ nI b = nI 1 := by
          have : b = 0 ∨ b = 1 := by omega
          rcases this with h | h <;> rw [h] <;> simp
        unfold fX12_findsUsed_35
        rw [stb_isUsed hm (by omega) hbz]
        (try simp (disch := first | assumption | exact Or.inr rfl | exact Or.inl rfl | ((repeat (first | apply MS_A | apply MS_I)) <;> assumption) | omega) only [sm_bind, sm_cb, sm_nm, lits, sm_add, sm_mul, sm_le, sm_lt, sm_eq, sm_div, sm_sub, mx_le, mx_lt, mx_eq, xm_le, xm_lt, xm_eq, iz_le, iz_lt, iz_eq, nb0, nb1, sA_wA_b, sA_wA_eq, Nat.zero_le, ↓reduceIte, not_true_eq_false, not_false_eq_true, eq_self, Nat.reduceEqDiff, Bool.false_eq_true, rf_ck])
        refine (ih (wA σ (m + 21) t (nI b)) (t + 1) hm (hB.keepM w (by simp [Rnot]) (fun _ _ _ h => h)) (hD.keepM w (by simp) (fun _ _ _ h => h)) (by omega) (by omega) (fun q hq => ?_)).mo ?_
        · by_cases hqt : q = t
          · subst hqt; rw [sA_wA_eq]; exact hbv
          · rw [sA_wA_j hqt]; exact hU q (by omega)
        · rintro σ2 v ⟨q1, q2⟩
          exact ⟨w.tr q1, q2⟩
      unfold fX12_findsUsed_34
      cases hto : tg ns fs t with
      | none =>
        rw [hto] at th
        (try simp (disch := first | assumption | exact Or.inr rfl | exact Or.inl rfl | ((repeat (first | apply MS_A | apply MS_I)) <;> assumption) | omega) only [sm_bind, sm_cb, sm_nm, lits, sm_add, sm_mul, sm_le, sm_lt, sm_eq, sm_div, sm_sub, mx_le, mx_lt, mx_eq, xm_le, xm_lt, xm_eq, iz_le, iz_lt, iz_eq, nb0, nb1, sA_wA_b, sA_wA_eq, Nat.zero_le, ↓reduceIte, not_true_eq_false, not_false_eq_true, eq_self, Nat.reduceEqDiff, Bool.false_eq_true, rf_ck, rf_isUsed, ldb_isUsed, stb_isUsed, hc, th, Option.isSome_none, Bool.false_eq_true])
        exact put 0 (by omega) (by unfold dirB; rw [hto]; rfl)
      | some e =>
        rw [hto] at th
        have hh := rf_hasDirectly hm hB hD hto
        by_cases hus : usb l e.1 e.2.1 = true
        · (try simp (disch := first | assumption | exact Or.inr rfl | exact Or.inl rfl | ((repeat (first | apply MS_A | apply MS_I)) <;> assumption) | omega) only [sm_bind, sm_cb, sm_nm, lits, sm_add, sm_mul, sm_le, sm_lt, sm_eq, sm_div, sm_sub, mx_le, mx_lt, mx_eq, xm_le, xm_lt, xm_eq, iz_le, iz_lt, iz_eq, nb0, nb1, sA_wA_b, sA_wA_eq, Nat.zero_le, ↓reduceIte, not_true_eq_false, not_false_eq_true, eq_self, Nat.reduceEqDiff, Bool.false_eq_true, rf_ck, rf_isUsed, ldb_isUsed, stb_isUsed, hc, th, Option.isSome_some, hh, hus])
          exact put 1 (by omega) (by unfold dirB; rw [hto, if_pos hus])
        · (try simp (disch := first | assumption | exact Or.inr rfl | exact Or.inl rfl | ((repeat (first | apply MS_A | apply MS_I)) <;> assumption) | omega) only [sm_bind, sm_cb, sm_nm, lits, sm_add, sm_mul, sm_le, sm_lt, sm_eq, sm_div, sm_sub, mx_le, mx_lt, mx_eq, xm_le, xm_lt, xm_eq, iz_le, iz_lt, iz_eq, nb0, nb1, sA_wA_b, sA_wA_eq, Nat.zero_le, ↓reduceIte, not_true_eq_false, not_false_eq_true, eq_self, Nat.reduceEqDiff, Bool.false_eq_true, rf_ck, rf_isUsed, ldb_isUsed, stb_isUsed, hc, th, Option.isSome_some, hh, hus])
          exact put 0 (by omega) (by unfold dirB; rw [hto, if_neg hus])
theorem rf_findsUsed {m vm d np : Nat} {ns : List NE} {fs : List FE} {l : List It} {σ : St} (hm : MS σ m) (hB : Rbk σ m vm ns fs) (hD : Dfn σ m vm d l np) :
    Hx (fX12_findsUsed σ m (nI d)) fun σ' _ => rfM m [] [21] nV σ σ' ∧ ∀ t, t < 30 → (∀ e, tg ns fs t = some e → sA σ' (m + 21) t = nI (b01 (Rch (Ths ns fs) l e))) ∧ (tg ns fs t = none → sA σ' (m + 21) t = nI 0) := by
  unfold fX12_findsUsed
  refine (rf_fu_first FU σ 0 hm hB hD (by unfold FU; omega) (by omega) (fun q hq => by omega)).mo ?_
  rintro σ' v ⟨h1, U, h2, h3, h4⟩
  have hlt := hB.lt
  refine ⟨h1, fun t ht => ⟨fun e he => ?_, fun he => ?_⟩⟩
  · rw [h2 t ht]
    by_cases hr : Rch (Ths ns fs) l e
    · rw [b01_p hr]
      have hcl := Rch.closed (T := Ths ns fs) (C := fun x => x ∈ Ths ns fs ∧ ∀ q, q < 30 → tg ns fs q = some x → U q = true) (by
        rintro x y ⟨hx1, hx2⟩ ⟨hy1, hy2⟩
        refine ⟨hy1, fun q hq hqy => ?_⟩
        obtain ⟨r, hr1, hr2⟩ := tg_of hlt.1 hlt.2 hx1
        exact h4 r hr1 (hx2 r hr1 hr2) x hr2 q y hq hqy hy2) (fun y hy => ⟨hy.1, fun q hq hqy => h3.2 q y hq hqy hy.2⟩) hr
      rw [if_pos (hcl.2 t ht he)]
    · rw [b01_n hr, if_neg]
      intro hu
      obtain ⟨x, hx1, hx2⟩ := h3.1 t ht hu
      rw [he] at hx1
      cases hx1
      exact hr hx2
  · rw [h2 t ht, if_neg]
    intro hu
    obtain ⟨x, hx1, hx2⟩ := h3.1 t ht hu
    rw [he] at hx1
    cases hx1
theorem ckZ_b {b : Nat} (h : b ≤ 1) : ckZ (nI b) = some () := by
  have : b = 0 ∨ b = 1 := by omega
  rcases this with h | h <;> rw [h] <;> rfl
theorem rf_doesUse {m vm t o : Nat} {ns : List NE} {fs : List FE} {e e' : Th} {σ : St} (hm : MS σ m) (hB : Rbk σ m vm ns fs) (ht : tg ns fs t = some e) (ho : tg ns fs o = some e') :
    Hx (fX12_doesUse σ m (nI t) (nI o)) fun σ' v => v = nI (b01 (Rch (Ths ns fs) e.2.2 e')) ∧ rfM m [] [21] nV σ σ' := by
  obtain ⟨t30, _, _, d, np, hd, hD⟩ := hB.pos ht
  obtain ⟨o30, _⟩ := hB.pos ho
  unfold fX12_doesUse
  (try simp (disch := first | assumption | exact Or.inr rfl | exact Or.inl rfl | ((repeat (first | apply MS_A | apply MS_I)) <;> assumption) | omega) only [sm_bind, sm_cb, sm_nm, lits, sm_add, sm_mul, sm_le, sm_lt, sm_eq, sm_div, sm_sub, mx_le, mx_lt, mx_eq, xm_le, xm_lt, xm_eq, iz_le, iz_lt, iz_eq, nb0, nb1, sA_wA_b, sA_wA_eq, Nat.zero_le, ↓reduceIte, not_true_eq_false, not_false_eq_true, eq_self, Nat.reduceEqDiff, Bool.false_eq_true, rf_ck, rf_def, ld_def, st_def, hd])
  refine Hx.bd (rf_findsUsed hm hB hD) ?_
  rintro σ1 v ⟨h1, h2⟩
  have hm1 := h1.ms hm
  have u := (h2 o o30).1 e' ho
  have hz := ckZ_b (b01_le (Rch (Ths ns fs) e.2.2 e'))
  (try simp (disch := first | assumption | exact Or.inr rfl | exact Or.inl rfl | ((repeat (first | apply MS_A | apply MS_I)) <;> assumption) | omega) only [sm_bind, sm_cb, sm_nm, lits, sm_add, sm_mul, sm_le, sm_lt, sm_eq, sm_div, sm_sub, mx_le, mx_lt, mx_eq, xm_le, xm_lt, xm_eq, iz_le, iz_lt, iz_eq, nb0, nb1, sA_wA_b, sA_wA_eq, Nat.zero_le, ↓reduceIte, not_true_eq_false, not_false_eq_true, eq_self, Nat.reduceEqDiff, Bool.false_eq_true, rf_ck, rf_isUsed, ldb_isUsed, stb_isUsed, u, hz])
  exact Hx.ret ⟨rfl, h1⟩
