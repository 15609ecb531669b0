/-! ===== the text's tokens ===== -/
def tb (t : List Nat) (i : Nat) : Nat := (t[i]?).getD 0
theorem tb_s {t : List Nat} {i b : Nat} (h : t[i]? = some b) : tb t i = b := by unfold tb; rw [h]; rfl
theorem tb_n {t : List Nat} {i : Nat} (h : t.length ≤ i) : tb t i = 0 := by unfold tb; rw [List.getElem?_eq_none h]; rfl
theorem tb_lt {t : List Nat} {i : Nat} (h : i < t.length) : t[i]? = some (tb t i) := by
  unfold tb
  rw [List.getElem?_eq_getElem h]
  rfl
/-- the first place from p on whose byte is not of P -/
def ew (P : Nat → Bool) (t : List Nat) (p : Nat) : Nat := p + ((t.drop p).takeWhile P).length
theorem ew_y {P : Nat → Bool} {t : List Nat} {p : Nat} (h : p < t.length) (hb : P (tb t p) = true) : ew P t p = ew P t (p + 1) := by
  obtain ⟨h1, h2⟩ := List.getElem?_eq_some_iff.mp (tb_lt h)
  unfold ew
  rw [List.drop_eq_getElem_cons h1, List.takeWhile_cons, h2, if_pos hb, List.length_cons]
  omega
theorem ew_n {P : Nat → Bool} {t : List Nat} {p : Nat} (h : p < t.length) (hb : ¬ P (tb t p) = true) : ew P t p = p := by
  obtain ⟨h1, h2⟩ := List.getElem?_eq_some_iff.mp (tb_lt h)
  unfold ew
  rw [List.drop_eq_getElem_cons h1, List.takeWhile_cons, h2, if_neg hb]
  rfl
theorem ew_e {P : Nat → Bool} {t : List Nat} {p : Nat} (h : t.length ≤ p) : ew P t p = p := by
  unfold ew
  rw [List.drop_eq_nil_of_le h]
  rfl
theorem ew_ge {P : Nat → Bool} {t : List Nat} {p : Nat} : p ≤ ew P t p := Nat.le_add_right _ _
theorem ew_le {P : Nat → Bool} {t : List Nat} {p : Nat} (h : p ≤ t.length) : ew P t p ≤ t.length := by
  unfold ew
  have := (List.takeWhile_sublist P (l := t.drop p)).length_le
  rw [List.length_drop] at this
  omega
theorem ew_mid0 {P : Nat → Bool} {t : List Nat} : ∀ (n p i : Nat), t.length - p < n → p ≤ i → i < ew P t p → i < t.length ∧ P (tb t i) = true := by
  intro n
  induction n with
  | zero => intro p i h; omega
  | succ n ih =>
    intro p i hn hp hi
    by_cases h1 : p < t.length
    · by_cases h2 : P (tb t p) = true
      · by_cases e : i = p
        · subst e; exact ⟨h1, h2⟩
        · rw [ew_y h1 h2] at hi
          exact ih (p + 1) i (by omega) (by omega) hi
      · rw [ew_n h1 h2] at hi
        omega
    · rw [ew_e (by omega)] at hi
      omega
theorem ew_mid {P : Nat → Bool} {t : List Nat} {p i : Nat} (hp : p ≤ i) (hi : i < ew P t p) : i < t.length ∧ P (tb t i) = true := ew_mid0 (t.length - p + 1) p i (by omega) hp hi
theorem ew_at0 {P : Nat → Bool} {t : List Nat} : ∀ (n p : Nat), t.length - p < n → ew P t p < t.length → ¬ P (tb t (ew P t p)) = true := by
  intro n
  induction n with
  | zero => intro p h; omega
  | succ n ih =>
    intro p hn hi
    by_cases h1 : p < t.length
    · by_cases h2 : P (tb t p) = true
      · rw [ew_y h1 h2] at hi ⊢
        exact ih (p + 1) (by omega) hi
      · rw [ew_n h1 h2]
        exact h2
    · rw [ew_e (by omega)] at hi
      omega
theorem ew_at {P : Nat → Bool} {t : List Nat} {p : Nat} (h : ew P t p < t.length) : ¬ P (tb t (ew P t p)) = true := ew_at0 (t.length - p + 1) p (by omega) h
/-- from any place ahead of the end on, the end is the same -/
theorem ew_sh {P : Nat → Bool} {t : List Nat} : ∀ (d p : Nat), p + d ≤ ew P t p → ew P t (p + d) = ew P t p := by
  intro d
  induction d with
  | zero => intro p _; rfl
  | succ d ih =>
    intro p h
    have h1 := ew_mid (P := P) (t := t) (p := p) (i := p) (Nat.le_refl _) (by omega)
    have e := ew_y h1.1 h1.2
    rw [e] at h ⊢
    have := ih (p + 1) (by omega)
    rw [show p + (d + 1) = p + 1 + d by omega]
    exact this
def isD (b : Nat) : Bool := decide (48 ≤ b ∧ b ≤ 57)
def isL (b : Nat) : Bool := decide (97 ≤ b ∧ b ≤ 122)
def isS (b : Nat) : Bool := decide (b = 32 ∨ b = 10)
def sgb (b : Nat) : Prop := b = 33 ∨ b = 37 ∨ b = 40 ∨ b = 41 ∨ b = 42 ∨ b = 43 ∨ b = 44 ∨ b = 45 ∨ b = 47 ∨ b = 61 ∨ b = 94
def sgn (b : Nat) : Bool := b == 33 || b == 37 || b == 40 || b == 41 || b == 42 || b == 43 || b == 44 || b == 45 || b == 47 || b == 61 || b == 94
theorem isD_i {b : Nat} : isD b = true ↔ 48 ≤ b ∧ b ≤ 57 := by unfold isD; exact decide_eq_true_iff
theorem isL_i {b : Nat} : isL b = true ↔ 97 ≤ b ∧ b ≤ 122 := by unfold isL; exact decide_eq_true_iff
theorem isS_i {b : Nat} : isS b = true ↔ b = 32 ∨ b = 10 := by unfold isS; exact decide_eq_true_iff
theorem sgn_i {b : Nat} : sgn b = true ↔ sgb b := by
  unfold sgn sgb
  simp only [Bool.or_eq_true, beq_iff_eq, or_assoc]
/-- where a NUMBER ends -/
def eN (t : List Nat) (p : Nat) : Option Nat :=
  if 12 < ew isD t p - p then none else
  if tb t (ew isD t p) ≠ 46 then some (ew isD t p) else
  if 7 < ew isD t (ew isD t p + 1) - ew isD t p then none else
  if tb t (ew isD t (ew isD t p + 1)) ≠ 91 then (if ew isD t (ew isD t p + 1) = ew isD t p + 1 then none else some (ew isD t (ew isD t p + 1))) else
  if ew isD t (ew isD t (ew isD t p + 1) + 1) = ew isD t (ew isD t p + 1) + 1 then none else
  if 7 < ew isD t (ew isD t (ew isD t p + 1) + 1) - ew isD t (ew isD t p + 1) then none else
  if tb t (ew isD t (ew isD t (ew isD t p + 1) + 1)) ≠ 93 then none else some (ew isD t (ew isD t (ew isD t p + 1) + 1) + 1)
theorem tb_at {t : List Nat} {i b : Nat} (h : tb t i = b) (h0 : b ≠ 0) : i < t.length := by
  apply Nat.lt_of_not_le
  intro q
  rw [tb_n q] at h
  exact h0 h.symm
theorem eN_b {t : List Nat} {p e : Nat} (hp : p < t.length) (hd : isD (tb t p) = true) (h : eN t p = some e) : p < e ∧ e ≤ t.length := by
  have g1 : ew isD t p = ew isD t (p + 1) := ew_y hp hd
  have g2 : p + 1 ≤ ew isD t p := by rw [g1]; exact ew_ge
  have g3 : ew isD t p ≤ t.length := ew_le (by omega)
  unfold eN at h
  generalize ew isD t p = a at *
  split at h
  · cases h
  split at h
  · cases h; exact ⟨by omega, g3⟩
  rename_i c1 c2
  have c2 := Classical.not_not.mp c2
  have g4 := tb_at c2 (by omega)
  have g5 : a + 1 ≤ ew isD t (a + 1) := ew_ge
  have g6 : ew isD t (a + 1) ≤ t.length := ew_le (by omega)
  generalize ew isD t (a + 1) = b at *
  split at h
  · cases h
  split at h
  · split at h
    · cases h
    · cases h; exact ⟨by omega, g6⟩
  rename_i c3 c4
  have c4 := Classical.not_not.mp c4
  have g7 := tb_at c4 (by omega)
  have g8 : b + 1 ≤ ew isD t (b + 1) := ew_ge
  have g9 : ew isD t (b + 1) ≤ t.length := ew_le (by omega)
  generalize ew isD t (b + 1) = c at *
  split at h
  · cases h
  split at h
  · cases h
  split at h
  · cases h
  rename_i c5 c6 c7
  have c7 := Classical.not_not.mp c7
  have := tb_at c7 (by omega)
  cases h
  exact ⟨by omega, by omega⟩
/-- the number of a word -/
def wvf (t : List Nat) : Nat → Nat → Nat → Nat
  | 0, _, n => n
  | k + 1, p, n => if p < t.length ∧ isL (tb t p) = true then wvf t k (p + 1) (27 * n + (tb t p - 96)) else n
theorem wvf_b {t : List Nat} : ∀ (k p n j : Nat), n < 27 ^ j → wvf t k p n < 27 ^ (j + k) := by
  intro k
  induction k with
  | zero => intro p n j h; exact h
  | succ k ih =>
    intro p n j h
    unfold wvf
    split
    · rename_i c
      have := isL_i.mp c.2
      have := ih (p + 1) (27 * n + (tb t p - 96)) (j + 1) (by rw [Nat.pow_succ]; omega)
      rw [show j + (k + 1) = j + 1 + k by omega]
      exact this
    · exact Nat.lt_of_lt_of_le h (Nat.pow_le_pow_right (by omega) (by omega))
theorem wvf_m {t : List Nat} : ∀ (k p n : Nat), n ≤ wvf t k p n := by
  intro k
  induction k with
  | zero => intro p n; exact Nat.le_refl _
  | succ k ih =>
    intro p n
    unfold wvf
    split
    · have := ih (p + 1) (27 * n + (tb t p - 96))
      omega
    · exact Nat.le_refl _
theorem wvf_wd {t : List Nat} {p : Nat} (h : p < t.length) (hl : isL (tb t p) = true) : wd (wvf t 6 p 0) := by
  refine ⟨?_, ?_⟩
  · show 0 < (if p < t.length ∧ isL (tb t p) = true then wvf t 5 (p + 1) (27 * 0 + (tb t p - 96)) else 0)
    rw [if_pos ⟨h, hl⟩]
    have := isL_i.mp hl
    have := wvf_m (t := t) 5 (p + 1) (27 * 0 + (tb t p - 96))
    omega
  · exact wvf_b (t := t) 6 p 0 0 (by decide)
/-- a token: 0 the end, 1 a word, 2 a number, 3 none, else the byte of a sign; its value; where it begins and ends -/
abbrev Tok := Nat × Nat × Nat × Nat
def lxs (t : List Nat) (s : Nat) : Tok :=
  if t.length ≤ s then (0, 0, s, s) else
  if isL (tb t s) = true then (if 6 < ew isL t s - s then (3, 0, s, s) else (1, wvf t 6 s 0, s, ew isL t s)) else
  if isD (tb t s) = true then (match eN t s with
    | none => (3, 0, s, s)
    | some e => (2, 0, s, e)) else
  if sgn (tb t s) = true then (tb t s, 0, s, s + 1) else (3, 0, s, s)
def lx (t : List Nat) (p : Nat) : Tok := lxs t (ew isS t p)
def tkp (t : List Nat) : Nat → Nat
  | 0 => 0
  | i + 1 => (lx t (tkp t i)).2.2.2
def tk (t : List Nat) (i : Nat) : Tok := lx t (tkp t i)
/-- whether a token goes on -/
def gon (k : Tok) : Prop := k.1 ≠ 0 ∧ k.1 ≠ 3
theorem lxs_b {t : List Nat} {s : Nat} (h : s ≤ t.length) : (lxs t s).2.2.1 = s ∧ s ≤ (lxs t s).2.2.2 ∧ (lxs t s).2.2.2 ≤ t.length ∧ (gon (lxs t s) → s < (lxs t s).2.2.2) ∧ (gon (lxs t s) → s < t.length) ∧ ((lxs t s).1 = 1 → wd (lxs t s).2.1) ∧ (lxs t s).1 ≤ 94 ∧ ((lxs t s).1 ≤ 3 ∨ sgb (lxs t s).1) := by
  unfold lxs gon
  split
  · exact ⟨rfl, Nat.le_refl _, h, fun q => absurd rfl q.1, fun q => absurd rfl q.1, fun q => (by cases q), by show 0 ≤ 94; omega, Or.inl (by show 0 ≤ 3; omega)⟩
  rename_i c0
  split
  · rename_i c1
    have g1 := ew_y (P := isL) (t := t) (p := s) (by omega) c1
    have g2 : s + 1 ≤ ew isL t s := by rw [g1]; exact ew_ge
    have g3 : ew isL t s ≤ t.length := ew_le (by omega)
    split
    · exact ⟨rfl, Nat.le_refl _, h, fun q => absurd rfl q.2, fun q => absurd rfl q.2, fun q => (by cases q), by show 3 ≤ 94; omega, Or.inl (by show 3 ≤ 3; omega)⟩
    · exact ⟨rfl, ew_ge, g3, fun _ => g2, fun _ => by omega, fun _ => wvf_wd (by omega) c1, by show 1 ≤ 94; omega, Or.inl (by show 1 ≤ 3; omega)⟩
  rename_i c1
  split
  · rename_i c2
    cases he : eN t s with
    | none => exact ⟨rfl, Nat.le_refl _, h, fun q => absurd rfl q.2, fun q => absurd rfl q.2, fun q => (by cases q), by show 3 ≤ 94; omega, Or.inl (by show 3 ≤ 3; omega)⟩
    | some e =>
      obtain ⟨q1, q2⟩ := eN_b (by omega) c2 he
      exact ⟨rfl, by show s ≤ e; omega, q2, fun _ => q1, fun _ => by omega, fun q => (by cases q), by show 2 ≤ 94; omega, Or.inl (by show 2 ≤ 3; omega)⟩
  split
  · rename_i c3
    have c4 := sgn_i.mp c3
    have c5 := c4
    unfold sgb at c5
    refine ⟨rfl, by show s ≤ s + 1; omega, by show s + 1 ≤ t.length; omega, fun _ => by show s < s + 1; omega, fun _ => by omega, fun q => ?_, by show tb t s ≤ 94; omega, Or.inr c4⟩
    have q2 : tb t s = 1 := q
    omega
  · exact ⟨rfl, Nat.le_refl _, h, fun q => absurd rfl q.2, fun q => absurd rfl q.2, fun q => (by cases q), by show 3 ≤ 94; omega, Or.inl (by show 3 ≤ 3; omega)⟩
theorem lx_b {t : List Nat} {p : Nat} (h : p ≤ t.length) : (lx t p).2.2.1 = ew isS t p ∧ p ≤ (lx t p).2.2.2 ∧ (lx t p).2.2.2 ≤ t.length ∧ (gon (lx t p) → p < (lx t p).2.2.2) ∧ ((lx t p).1 = 1 → wd (lx t p).2.1) ∧ (lx t p).1 ≤ 94 ∧ ((lx t p).1 ≤ 3 ∨ sgb (lx t p).1) := by
  have g1 : p ≤ ew isS t p := ew_ge
  have g2 : ew isS t p ≤ t.length := ew_le h
  obtain ⟨q1, q2, q3, q4, q5, q6, q7, q8⟩ := lxs_b g2
  exact ⟨q1, by show p ≤ (lxs t (ew isS t p)).2.2.2; omega, q3, fun q => by have := q4 q; show p < (lxs t (ew isS t p)).2.2.2; omega, q6, q7, q8⟩
theorem tkp_le {t : List Nat} : ∀ i, tkp t i ≤ t.length := by
  intro i
  induction i with
  | zero => exact Nat.zero_le _
  | succ i ih => exact (lx_b ih).2.2.1
theorem tk_b {t : List Nat} (i : Nat) : (tk t i).2.2.1 = ew isS t (tkp t i) ∧ (tk t i).2.2.2 = tkp t (i + 1) ∧ (gon (tk t i) → tkp t i < tkp t (i + 1)) ∧ ((tk t i).1 = 1 → wd (tk t i).2.1) ∧ (tk t i).1 ≤ 94 ∧ ((tk t i).1 ≤ 3 ∨ sgb (tk t i).1) ∧ (tk t i).2.2.1 ≤ t.length := by
  obtain ⟨q1, q2, q3, q4, q5, q6, q7⟩ := lx_b (tkp_le (t := t) i)
  refine ⟨q1, rfl, q4, q5, q6, q7, ?_⟩
  show (lx t (tkp t i)).2.2.1 ≤ _
  rw [q1]
  exact ew_le (tkp_le i)
theorem tkp_mono {t : List Nat} {i : Nat} : ∀ d, tkp t i ≤ tkp t (i + d) := by
  intro d
  induction d with
  | zero => exact Nat.le_refl _
  | succ d ih => exact Nat.le_trans ih (lx_b (tkp_le (t := t) (i + d))).2.1
/-- while all tokens go on, there is a byte for each -/
theorem tkp_i {t : List Nat} : ∀ i, (∀ j, j < i → gon (tk t j)) → i ≤ tkp t i := by
  intro i
  induction i with
  | zero => intro _; exact Nat.zero_le _
  | succ i ih =>
    intro h
    have h1 := ih (fun j hj => h j (by omega))
    have h2 := (tk_b (t := t) i).2.2.1 (h i (by omega))
    omega
/-- n tokens: the last one is the end, or none -/
def Ntk (t : List Nat) (n : Nat) : Prop := 0 < n ∧ (∀ j, j + 1 < n → gon (tk t j)) ∧ ¬ gon (tk t (n - 1))
theorem Ntk.le {t : List Nat} {n : Nat} (h : Ntk t n) : n ≤ t.length + 1 := by
  have h1 := tkp_i (t := t) (n - 1) (fun j hj => h.2.1 j (by omega))
  have h2 := tkp_le (t := t) (n - 1)
  omega
theorem Ntk.nx {t : List Nat} {n i : Nat} (h : Ntk t n) (hi : i < n) (hg : gon (tk t i)) : i + 1 < n := by
  apply Nat.lt_of_not_le
  intro q
  have e : n - 1 = i := by omega
  have := h.2.2
  rw [e] at this
  exact this hg
