/-! ===== what is worked, as pure texts: items (kind, which, how many, place, value), names (word, items, value), functions (word, parameters, items) ===== -/
abbrev It := Nat × Nat × Nat × Nat × Qv
abbrev NE := Nat × List It × Qv
abbrev FE := Nat × Nat × List It
/-- the step of a word that is known at first -/
def known (w : Nat) : Nat := if w = 802 then 15 else if w = 3065 then 18 else if w = 5188 then 10 else if w = 8842 then 11 else if w = 9528 then 20 else if w = 9616 then 16 else if w = 9734 then 19 else if w = 10786 then 17 else if w = 62949 then 13 else if w = 279252 then 14 else if w = 3436200 then 12 else 0
/-- with two values -/
def two (st : Nat) : Prop := st < 7 ∨ st = 10 ∨ st = 11 ∨ st = 16 ∨ st = 19 ∨ st = 20
theorem two_dec (st : Nat) : two st ∨ ¬ two st := Classical.em _
noncomputable def arity (st : Nat) : Nat := @ite _ (two st) (Classical.propDecidable _) 2 1
theorem ar_pos {st : Nat} (h : two st) : arity st = 2 := by unfold arity; exact if_pos h
theorem ar_neg {st : Nat} (h : ¬ two st) : arity st = 1 := by unfold arity; exact if_neg h
theorem known_b (w : Nat) : known w ≤ 20 ∧ (known w = 0 ∨ 10 ≤ known w) := by
  unfold known
  repeat' split
  all_goals omega
theorem rf_known {σ : St} {w : Nat} (h : w < 2147483648) : fX12_known σ (nI w) = some (σ, nI (known w)) := by
  have q : ∀ n : Nat, n < 2147483648 → (nI w = nI n) = (w = n) := fun n hn => sm_eq h hn
  unfold fX12_known known
  simp only [lits]
  simp only [q 802 (by omega)]
  by_cases c1 : w = 802; · simp only [c1, ↓reduceIte]
  by_cases c2 : w = 3065; · simp only [c2]; rfl
  by_cases c3 : w = 5188; · simp only [c3]; rfl
  by_cases c4 : w = 8842; · simp only [c4]; rfl
  by_cases c5 : w = 9528; · simp only [c5]; rfl
  by_cases c6 : w = 9616; · simp only [c6]; rfl
  by_cases c7 : w = 9734; · simp only [c7]; rfl
  by_cases c8 : w = 10786; · simp only [c8]; rfl
  by_cases c9 : w = 62949; · simp only [c9]; rfl
  by_cases c10 : w = 279252; · simp only [c10]; rfl
  by_cases c11 : w = 3436200; · simp only [c11]; rfl
  simp only [q 3065 (by omega), q 5188 (by omega), q 8842 (by omega), q 9528 (by omega), q 9616 (by omega), q 9734 (by omega), q 10786 (by omega), q 62949 (by omega), q 279252 (by omega), q 3436200 (by omega), c1, c2, c3, c4, c5, c6, c7, c8, c9, c10, c11, ↓reduceIte]
theorem rf_hasTwo {σ : St} {st : Nat} (h : st < 100) : fX12_hasTwo σ (nI st) = some (σ, nI (arity st - 1)) := by
  unfold fX12_hasTwo fX12_hasTwo_36
  simp (disch := omega) only [lits, sm_eq, sm_lt]
  by_cases h2 : two st
  · rw [ar_pos h2]
    unfold two at h2
    repeat' split
    all_goals first | rfl | omega
  · rw [ar_neg h2]
    unfold two at h2
    repeat' split
    all_goals first | rfl | omega
/-! ===== the reference holds them ===== -/
/-- values that stay: below vm, from FIRST on -/
def Kv (σ : St) (m vm vi : Nat) (q : Qv) : Prop := (600 ≤ vi ∧ vi < vm ∧ vm ≤ 12600) ∧ Vl σ m vi q
theorem Kv.keepM {m vm vi : Nat} {q : Qv} {F A : List Nat} {V : Nat → Prop} {σ σ' : St} (h : Kv σ m vm vi q) (hR : rfM m F A V σ σ') (hv : ∀ i, 600 ≤ i → i < vm → ¬ V i) : Kv σ' m vm vi q := ⟨h.1, h.2.keepM hR (hv vi h.1.1 h.1.2.1)⟩
def Itm (σ : St) (m vm k : Nat) (it : It) : Prop := (k < 12000 ∧ it.1 < 100 ∧ it.2.1 < 2147483648 ∧ it.2.2.1 ≤ 200 ∧ it.2.2.2.1 ≤ 200) ∧ sA σ (m + 6) k = nI it.1 ∧ (it.1 = 30 → ∃ vi, sA σ (m + 7) k = nI vi ∧ Kv σ m vm vi it.2.2.2.2) ∧ (it.1 ≠ 30 → sA σ (m + 7) k = nI it.2.1) ∧ sA σ (m + 8) k = nI it.2.2.1 ∧ sA σ (m + 9) k = nI it.2.2.2.1
theorem Itm.keepM {m vm k : Nat} {it : It} {F A : List Nat} {V : Nat → Prop} {σ σ' : St} (h : Itm σ m vm k it) (hR : rfM m F A V σ σ') (hA : 6 ∉ A ∧ 7 ∉ A ∧ 8 ∉ A ∧ 9 ∉ A) (hv : ∀ i, 600 ≤ i → i < vm → ¬ V i) : Itm σ' m vm k it := by
  obtain ⟨h0, h1, h2, h3, h4, h5⟩ := h
  unfold Itm
  rw [hR.ar 6 ⟨hA.1, by omega, by omega⟩, hR.ar 7 ⟨hA.2.1, by omega, by omega⟩, hR.ar 8 ⟨hA.2.2.1, by omega, by omega⟩, hR.ar 9 ⟨hA.2.2.2, by omega, by omega⟩]
  refine ⟨h0, h1, fun h => ?_, h3, h4, h5⟩
  obtain ⟨vi, q1, q2⟩ := h2 h
  exact ⟨vi, q1, q2.keepM hR hv⟩
/-- the items from k on -/
def Its (σ : St) (m vm k : Nat) (l : List It) : Prop := k + l.length ≤ 12000 ∧ ∀ j it, l[j]? = some it → Itm σ m vm (k + j) it
theorem Its.keepM {m vm k : Nat} {l : List It} {F A : List Nat} {V : Nat → Prop} {σ σ' : St} (h : Its σ m vm k l) (hR : rfM m F A V σ σ') (hA : 6 ∉ A ∧ 7 ∉ A ∧ 8 ∉ A ∧ 9 ∉ A) (hv : ∀ i, 600 ≤ i → i < vm → ¬ V i) : Its σ' m vm k l := ⟨h.1, fun j it e => (h.2 j it e).keepM hR hA hv⟩
theorem Its.hd {σ : St} {m vm k : Nat} {it : It} {l : List It} (h : Its σ m vm k (it :: l)) : Itm σ m vm k it ∧ Its σ m vm (k + 1) l := by
  refine ⟨h.2 0 it rfl, by have := h.1; simp at this; omega, fun j x e => ?_⟩
  have := h.2 (j + 1) x (by rw [List.getElem?_cons_succ]; exact e)
  rw [show k + 1 + j = k + (j + 1) by omega]
  exact this
/-- something told: where it stands, its parameters -/
def Dfn (σ : St) (m vm d : Nat) (l : List It) (np : Nat) : Prop := d < 600 ∧ np ≤ 4 ∧ ∃ s, sA σ (m + 10) d = nI s ∧ sA σ (m + 11) d = nI (s + l.length) ∧ sA σ (m + 12) d = nI np ∧ Its σ m vm s l
theorem Dfn.keepM {m vm d np : Nat} {l : List It} {F A : List Nat} {V : Nat → Prop} {σ σ' : St} (h : Dfn σ m vm d l np) (hR : rfM m F A V σ σ') (hA : (6 ∉ A ∧ 7 ∉ A ∧ 8 ∉ A ∧ 9 ∉ A) ∧ 10 ∉ A ∧ 11 ∉ A ∧ 12 ∉ A) (hv : ∀ i, 600 ≤ i → i < vm → ¬ V i) : Dfn σ' m vm d l np := by
  obtain ⟨h0, h1, s, h2, h3, h4, h5⟩ := h
  refine ⟨h0, h1, s, ?_, ?_, ?_, h5.keepM hR hA.1 hv⟩
  · rw [hR.ar 10 ⟨hA.2.1, by omega, by omega⟩]; exact h2
  · rw [hR.ar 11 ⟨hA.2.2.1, by omega, by omega⟩]; exact h3
  · rw [hR.ar 12 ⟨hA.2.2.2, by omega, by omega⟩]; exact h4
/-- the names and functions, in the reference's order -/
def Rbk (σ : St) (m vm : Nat) (ns : List NE) (fs : List FE) : Prop := (Fi σ m 40 (nI ns.length) ∧ ns.length ≤ 20 ∧ Fi σ m 41 (nI fs.length) ∧ fs.length ≤ 10) ∧
  (∀ k e, ns[k]? = some e → sA σ (m + 18) k = nI e.1 ∧ e.1 < 2147483648 ∧ (∃ d, sA σ (m + 19) k = nI d ∧ Dfn σ m vm d e.2.1 0) ∧ ∃ vi, sA σ (m + 20) k = nI vi ∧ Kv σ m vm vi e.2.2) ∧
  ∀ k e, fs[k]? = some e → sA σ (m + 18) (20 + k) = nI e.1 ∧ e.1 < 2147483648 ∧ ∃ d, sA σ (m + 19) (20 + k) = nI d ∧ Dfn σ m vm d e.2.2 e.2.1
def Rnot (F A : List Nat) : Prop := (40 ∉ F ∧ 41 ∉ F) ∧ ((6 ∉ A ∧ 7 ∉ A ∧ 8 ∉ A ∧ 9 ∉ A) ∧ 10 ∉ A ∧ 11 ∉ A ∧ 12 ∉ A) ∧ 18 ∉ A ∧ 19 ∉ A ∧ 20 ∉ A
theorem Rbk.keepM {m vm : Nat} {ns : List NE} {fs : List FE} {F A : List Nat} {V : Nat → Prop} {σ σ' : St} (h : Rbk σ m vm ns fs) (hR : rfM m F A V σ σ') (hA : Rnot F A) (hv : ∀ i, 600 ≤ i → i < vm → ¬ V i) : Rbk σ' m vm ns fs := by
  obtain ⟨⟨a1, a2, a3, a4⟩, h2, h3⟩ := h
  refine ⟨⟨a1.keep hR hA.1.1, a2, a3.keep hR hA.1.2, a4⟩, fun k e he => ?_, fun k e he => ?_⟩
  · obtain ⟨b1, b2, ⟨d, b3, b4⟩, vi, b5, b6⟩ := h2 k e he
    refine ⟨?_, b2, ⟨d, ?_, b4.keepM hR hA.2.1 hv⟩, vi, ?_, b6.keepM hR hv⟩
    · rw [hR.ar 18 ⟨hA.2.2.1, by omega, by omega⟩]; exact b1
    · rw [hR.ar 19 ⟨hA.2.2.2.1, by omega, by omega⟩]; exact b3
    · rw [hR.ar 20 ⟨hA.2.2.2.2, by omega, by omega⟩]; exact b5
  · obtain ⟨b1, b2, d, b3, b4⟩ := h3 k e he
    refine ⟨?_, b2, d, ?_, b4.keepM hR hA.2.1 hv⟩
    · rw [hR.ar 18 ⟨hA.2.2.1, by omega, by omega⟩]; exact b1
    · rw [hR.ar 19 ⟨hA.2.2.2.1, by omega, by omega⟩]; exact b3
theorem Rbk.lt {σ : St} {m vm : Nat} {ns : List NE} {fs : List FE} (h : Rbk σ m vm ns fs) : ns.length ≤ 20 ∧ fs.length ≤ 10 := ⟨h.1.2.1, h.1.2.2.2⟩
/-! ===== finding a thing ===== -/
/-- the place of a word, from k on -/
def fix (ws : List Nat) (w : Nat) : Option Nat := ws.findIdx? (fun x => x == w)
def thn (o : Option Nat) (b : Nat) : Int := match o with
  | some k => (b + k : Nat)
  | none => -1
theorem rf_thing_loop {m w b : Nat} {f : Nat} {σ : St} {ws : List Nat} (hm : MS σ m) (hw : w < 2147483648) (hf : f ≤ 1) (hb : b = if f = 0 then 0 else 20) (hl : ws.length ≤ (if f = 0 then 20 else 10)) (hn : Fi σ m (if f = 0 then 40 else 41) (nI ws.length)) (hW : ∀ k x, ws[k]? = some x → sA σ (m + 18) (b + k) = nI x ∧ x < 2147483648) :
    ∀ (n k : Nat), ws.length - k < n → k ≤ ws.length → fX12_thing_14 n σ m (nI w) (nI f) (nI b) (nI (b + k)) = some (σ, iz (thn (fix (ws.drop k) w) (b + k))) := by
  intro n
  induction n with
  | zero => intro k h; omega
  | succ n ih =>
    intro k hk hkl
    rw [fX12_thing_14]
    have core : fX12_thing_32 (fX12_thing_14 n) σ m (nI w) (nI f) (nI b) (nI (b + k)) (nI (b + k)) (nI b) (nI ws.length) = some (σ, iz (thn (fix (ws.drop k) w) (b + k))) := by
      unfold fX12_thing_32
      have hb20 : b ≤ 20 := by rw [hb]; split <;> omega
      have hl20 : ws.length ≤ 20 := by split at hl <;> omega
      have hbl : b + ws.length ≤ 30 := by by_cases h0 : f = 0 <;> simp [h0] at hl hb <;> omega
      by_cases hc : ws.length ≤ k
      · have hc' : b + ws.length ≤ b + k := by omega
        rw [List.drop_eq_nil_of_le hc]
        (try simp (disch := first | assumption | ((repeat (first | apply MS_A | apply MS_I)) <;> assumption) | omega) only [sm_bind, sm_cb, sm_nm, lits, sm_add, sm_mul, sm_le, sm_lt, sm_eq, sm_div, sm_sub, mx_le, mx_lt, mx_eq, xm_le, xm_lt, xm_eq, iz_le, iz_lt, iz_eq, nb0, nb1, sA_wA_b, sA_wA_eq, Nat.zero_le, ↓reduceIte, not_true_eq_false, not_false_eq_true, eq_self, Nat.reduceEqDiff, rf_ck, hc'])
        rfl
      · have hc' : ¬ (b + ws.length ≤ b + k) := by omega
        have hkl2 : k < ws.length := by omega
        obtain ⟨q1, q2⟩ := hW k ws[k] (List.getElem?_eq_getElem hkl2)
        have hd : ws.drop k = ws[k] :: ws.drop (k + 1) := List.drop_eq_getElem_cons hkl2
        by_cases he : ws[k] = w
        · have hfx : fix (ws.drop k) w = some 0 := by
            rw [hd]
            simp [fix, List.findIdx?_cons, he]
          rw [hfx]
          (try simp (disch := first | assumption | ((repeat (first | apply MS_A | apply MS_I)) <;> assumption) | omega) only [sm_bind, sm_cb, sm_nm, lits, sm_add, sm_mul, sm_le, sm_lt, sm_eq, sm_div, sm_sub, mx_le, mx_lt, mx_eq, xm_le, xm_lt, xm_eq, iz_le, iz_lt, iz_eq, nb0, nb1, sA_wA_b, sA_wA_eq, Nat.zero_le, ↓reduceIte, not_true_eq_false, not_false_eq_true, eq_self, Nat.reduceEqDiff, rf_ck, rf_word, ld_word, st_word, hc', q1, he])
          rw [sm_iz]
          rfl
        · have i1 := ih (k + 1) (by omega) (by omega)
          have hfx : fix (ws.drop k) w = (fix (ws.drop (k + 1)) w).map (· + 1) := by
            rw [hd]
            generalize List.drop (k + 1) ws = tl
            simp [fix, List.findIdx?_cons, he]
          have hth : thn (fix (ws.drop k) w) (b + k) = thn (fix (ws.drop (k + 1)) w) (b + (k + 1)) := by
            rw [hfx]
            cases fix (ws.drop (k + 1)) w with
            | none => rfl
            | some j => show (((b + k + (j + 1) : Nat)) : Int) = ((b + (k + 1) + j : Nat) : Int); omega
          rw [hth]
          rw [show b + (k + 1) = b + k + 1 by omega] at i1 ⊢
          (try simp (disch := first | assumption | ((repeat (first | apply MS_A | apply MS_I)) <;> assumption) | omega) only [sm_bind, sm_cb, sm_nm, lits, sm_add, sm_mul, sm_le, sm_lt, sm_eq, sm_div, sm_sub, mx_le, mx_lt, mx_eq, xm_le, xm_lt, xm_eq, iz_le, iz_lt, iz_eq, nb0, nb1, sA_wA_b, sA_wA_eq, Nat.zero_le, ↓reduceIte, not_true_eq_false, not_false_eq_true, eq_self, Nat.reduceEqDiff, rf_ck, rf_word, ld_word, st_word, hc', q1, he, i1])
    by_cases h0 : f = 0
    · rw [if_pos h0] at hn
      have hn' : sI σ (fid 16 40) m = nI ws.length := hn
      (try simp (disch := first | assumption | ((repeat (first | apply MS_A | apply MS_I)) <;> assumption) | omega) only [sm_bind, sm_cb, sm_nm, lits, sm_add, sm_mul, sm_le, sm_lt, sm_eq, sm_div, sm_sub, mx_le, mx_lt, mx_eq, xm_le, xm_lt, xm_eq, iz_le, iz_lt, iz_eq, nb0, nb1, sA_wA_b, sA_wA_eq, Nat.zero_le, ↓reduceIte, not_true_eq_false, not_false_eq_true, eq_self, Nat.reduceEqDiff, rf_ck, rf_gI, rf_pI, h0, hn'])
      rw [h0] at core
      exact core
    · rw [if_neg h0] at hn
      have hn' : sI σ (fid 16 41) m = nI ws.length := hn
      (try simp (disch := first | assumption | ((repeat (first | apply MS_A | apply MS_I)) <;> assumption) | omega) only [sm_bind, sm_cb, sm_nm, lits, sm_add, sm_mul, sm_le, sm_lt, sm_eq, sm_div, sm_sub, mx_le, mx_lt, mx_eq, xm_le, xm_lt, xm_eq, iz_le, iz_lt, iz_eq, nb0, nb1, sA_wA_b, sA_wA_eq, Nat.zero_le, ↓reduceIte, not_true_eq_false, not_false_eq_true, eq_self, Nat.reduceEqDiff, rf_ck, rf_gI, rf_pI, h0, hn'])
      exact core
theorem thn_b {o : Option Nat} {b L : Nat} (h : ∀ k, o = some k → k < L) : -1 ≤ thn o b ∧ thn o b < b + L + 1 := by
  cases o with
  | none => exact ⟨by show (-1 : Int) ≤ -1; omega, by show (-1 : Int) < _; omega⟩
  | some k => have := h k rfl; exact ⟨by show (-1 : Int) ≤ ((b + k : Nat) : Int); omega, by show ((b + k : Nat) : Int) < _; omega⟩
theorem fix_lt {ws : List Nat} {w k : Nat} (h : fix ws w = some k) : k < ws.length := by
  unfold fix at h
  rw [List.findIdx?_eq_some_iff_getElem] at h
  exact h.1
theorem fix_get {ws : List Nat} {w k : Nat} (h : fix ws w = some k) : ws[k]? = some w := by
  unfold fix at h
  rw [List.findIdx?_eq_some_iff_getElem] at h
  obtain ⟨h1, h2, _⟩ := h
  rw [List.getElem?_eq_getElem h1]
  simp at h2
  rw [h2]
theorem rf_thingN {m vm w : Nat} {σ : St} {ns : List NE} {fs : List FE} (hm : MS σ m) (hw : w < 2147483648) (hB : Rbk σ m vm ns fs) : fX12_thing σ m (nI w) (nI 0) = some (σ, iz (thn (fix (ns.map (·.1)) w) 0)) := by
  obtain ⟨⟨a1, a2, a3, a4⟩, h2, h3⟩ := hB
  have := rf_thing_loop (f := 0) (b := 0) (ws := ns.map (·.1)) hm hw (by omega) rfl (by simp; exact a2) (by simp; exact a1) (fun k x hx => by
    rw [List.getElem?_map] at hx
    cases hn : ns[k]? with
    | none => rw [hn] at hx; cases hx
    | some e =>
      rw [hn] at hx
      cases hx
      obtain ⟨b1, b2, _⟩ := h2 k e hn
      rw [Nat.zero_add]
      exact ⟨b1, b2⟩) FU 0 (by simp; unfold FU; omega) (by omega)
  unfold fX12_thing fX12_thing_10
  simp only [lits, ↓reduceIte]
  exact this
theorem rf_thingF {m vm w : Nat} {σ : St} {ns : List NE} {fs : List FE} (hm : MS σ m) (hw : w < 2147483648) (hB : Rbk σ m vm ns fs) : fX12_thing σ m (nI w) (nI 1) = some (σ, iz (thn (fix (fs.map (·.1)) w) 20)) := by
  obtain ⟨⟨a1, a2, a3, a4⟩, h2, h3⟩ := hB
  have := rf_thing_loop (f := 1) (b := 20) (ws := fs.map (·.1)) hm hw (by omega) rfl (by simp; exact a4) (by simp; exact a3) (fun k x hx => by
    rw [List.getElem?_map] at hx
    cases hn : fs[k]? with
    | none => rw [hn] at hx; cases hx
    | some e =>
      rw [hn] at hx
      cases hx
      obtain ⟨b1, b2, _⟩ := h3 k e hn
      exact ⟨b1, b2⟩) FU 0 (by simp; unfold FU; omega) (by omega)
  unfold fX12_thing fX12_thing_10
  have h9 : ¬ (nI 1 = nI 0) := by decide
  simp only [lits, h9, ↓reduceIte]
  exact this
/-- looking up: a name's value, a function's items -/
def nvl (ns : List NE) (w : Nat) : Option Qv := (fix (ns.map (·.1)) w).bind fun k => ns[k]?.map (·.2.2)
def fbd (fs : List FE) (w : Nat) : Option (List It) := (fix (fs.map (·.1)) w).bind fun k => fs[k]?.map (·.2.2)
theorem nvl_some {ns : List NE} {w : Nat} {q : Qv} (h : nvl ns w = some q) : ∃ k e, fix (ns.map (·.1)) w = some k ∧ ns[k]? = some e ∧ e.1 = w ∧ e.2.2 = q := by
  unfold nvl at h
  cases hk : fix (ns.map (·.1)) w with
  | none => rw [hk] at h; cases h
  | some k =>
    rw [hk] at h
    have hg := fix_get hk
    rw [List.getElem?_map] at hg
    cases he : ns[k]? with
    | none => rw [he] at hg; cases hg
    | some e =>
      rw [he] at hg
      simp [he] at h
      cases hg
      exact ⟨k, e, rfl, he, rfl, h⟩
theorem fbd_some {fs : List FE} {w : Nat} {l : List It} (h : fbd fs w = some l) : ∃ k e, fix (fs.map (·.1)) w = some k ∧ fs[k]? = some e ∧ e.1 = w ∧ e.2.2 = l := by
  unfold fbd at h
  cases hk : fix (fs.map (·.1)) w with
  | none => rw [hk] at h; cases h
  | some k =>
    rw [hk] at h
    have hg := fix_get hk
    rw [List.getElem?_map] at hg
    cases he : fs[k]? with
    | none => rw [he] at hg; cases hg
    | some e =>
      rw [he] at hg
      simp [he] at h
      cases hg
      exact ⟨k, e, rfl, he, rfl, h⟩
