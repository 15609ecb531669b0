/-! ===== the line's grammar, by signs that wait ===== -/
def q0 : Qv := (0, 0, 1)
/-- digits that stand from a place on -/
def dgf (t : List Nat) : Nat → Nat → Nat → Nat
  | 0, _, n => n
  | k + 1, p, n => dgf t k (p + 1) (if isD (tb t p) = true then 10 * n + (tb t p - 48) else n)
/-- the value of a NUMBER that begins at s -/
def nmp (t : List Nat) (s : Nat) : Nat × Nat :=
  if tb t (ew isD t s) ≠ 46 then (dgf t (ew isD t s - s) s 0, 1) else
  if tb t (ew isD t (ew isD t s + 1)) ≠ 91 then (dgf t (ew isD t (ew isD t s + 1) - s) s 0, 10 ^ (ew isD t (ew isD t s + 1) - ew isD t s - 1)) else
  (dgf t (ew isD t (ew isD t s + 1) - s) s 0 * (10 ^ (ew isD t (ew isD t (ew isD t s + 1) + 1) - ew isD t (ew isD t s + 1) - 1) - 1) + dgf t (ew isD t (ew isD t (ew isD t s + 1) + 1) - ew isD t (ew isD t s + 1) - 1) (ew isD t (ew isD t s + 1) + 1) 0,
   10 ^ (ew isD t (ew isD t s + 1) - ew isD t s - 1) * (10 ^ (ew isD t (ew isD t (ew isD t s + 1) + 1) - ew isD t (ew isD t s + 1) - 1) - 1))
def nmq (t : List Nat) (s : Nat) : Qv := qmk 1 (nmp t s).1 (nmp t s).2
/-- what waits: its kind (40 a bracket), its place, the word ahead of a bracket, how many values -/
abbrev Wt := Nat × Nat × Option Nat × Nat
def rk (its : Nat) : Nat := if its ≤ 2 then 1 else if its ≤ 5 then 2 else 3
def emw (w : Wt) : It := (w.1, 0, 0, w.2.1, q0)
def cli (w : Wt) : List It := match w.2.2.1 with
  | none => []
  | some u => [(33, u, w.2.2.2, w.2.1, q0)]
def opw (w : Wt) : Nat := if w.1 = 8 ∨ w.1 = 6 ∨ w.1 = 40 then 1 else 0
def opn (S : List Wt) : Nat := (S.map opw).sum
def stl (m : Nat) : List Wt → List It → List Wt × List It
  | [], L => ([], L)
  | w :: S, L => if w.1 ≠ 40 ∧ m ≤ rk w.1 then stl m S (L ++ [emw w]) else (w :: S, L)
def sgo (b : Nat) : Nat := if b = 43 then 1 else if b = 45 then 2 else if b = 42 then 3 else if b = 47 then 4 else if b = 37 then 5 else 0
def wdi (ps : List Nat) (w p : Nat) : It := match fix ps w with
  | none => (31, w, 0, p, q0)
  | some j => (32, j, 0, p, q0)
/-- behind an operand?, what waits, the items, the token -/
abbrev Sy := Bool × List Wt × List It × Nat
abbrev Se := Sy ⊕ (Nat ⊕ List It)
def syA (t ps : List Nat) (S : List Wt) (L : List It) (i : Nat) : Se :=
  if (tk t i).1 = 2 then .inl (true, S, L ++ [(30, 0, 0, (tk t i).2.2.1, nmq t (tk t i).2.2.1)], i + 1)
  else if (tk t i).1 = 45 ∨ (tk t i).1 = 40 then (if opn S = 12 then .inr (.inl i) else .inl (false, ((if (tk t i).1 = 45 then 8 else 40), (tk t i).2.2.1, none, 1) :: S, L, i + 1))
  else if (tk t i).1 ≠ 1 then .inr (.inl i)
  else if (tk t (i + 1)).1 ≠ 40 then .inl (true, S, L ++ [wdi ps (tk t i).2.1 (tk t i).2.2.1], i + 1)
  else if opn S = 12 then .inr (.inl (i + 1))
  else .inl (false, (40, (tk t i).2.2.1, some (tk t i).2.1, 1) :: S, L, i + 2)
def syC (i : Nat) (r : List Wt × List It) : Se := match r with
  | ([], _) => .inr (.inl i)
  | (w :: S, L) => .inl (true, S, L ++ cli w, i + 1)
def syK (i : Nat) (r : List Wt × List It) : Se := match r with
  | ([], _) => .inr (.inl i)
  | (w :: S, L) => if w.2.2.1 = none then .inr (.inl i) else .inl (false, (w.1, w.2.1, w.2.2.1, w.2.2.2 + 1) :: S, L, i + 1)
def syE (i : Nat) (r : List Wt × List It) : Se := match r with
  | ([], L) => .inr (.inr L)
  | (_ :: _, _) => .inr (.inl i)
def syB (t : List Nat) (S : List Wt) (L : List It) (i : Nat) : Se :=
  if (tk t i).1 = 33 then .inl (true, S, L ++ [(7, 0, 0, (tk t i).2.2.1, q0)], i + 1)
  else if (tk t i).1 = 41 then syC i (stl 1 S L)
  else if (tk t i).1 = 94 then (if opn S = 12 then .inr (.inl i) else .inl (false, (6, (tk t i).2.2.1, none, 1) :: S, L, i + 1))
  else if (tk t i).1 = 44 then syK i (stl 1 S L)
  else if 0 < sgo (tk t i).1 then .inl (false, (sgo (tk t i).1, (tk t i).2.2.1, none, 1) :: (stl (rk (sgo (tk t i).1)) S L).1, (stl (rk (sgo (tk t i).1)) S L).2, i + 1)
  else if (tk t i).1 = 0 then syE i (stl 1 S L)
  else .inr (.inl i)
def sy (t ps : List Nat) (s : Sy) : Se := if s.1 = false then syA t ps s.2.1 s.2.2.1 s.2.2.2 else syB t s.2.1 s.2.2.1 s.2.2.2
def sys (t ps : List Nat) : Nat → Sy → Se
  | 0, s => .inl s
  | n + 1, s => match sy t ps s with
    | .inl s' => sys t ps n s'
    | .inr r => .inr r
def Rt (t ps : List Nat) (a : Sy) (r : Se) : Prop := ∃ n, sys t ps n a = r
theorem Rt.rf {t ps : List Nat} {a : Sy} : Rt t ps a (.inl a) := ⟨0, rfl⟩
theorem Rt.st {t ps : List Nat} {a b : Sy} {r : Se} (h : sy t ps a = .inl b) (h2 : Rt t ps b r) : Rt t ps a r := by
  obtain ⟨n, h2⟩ := h2
  refine ⟨n + 1, ?_⟩
  show (match sy t ps a with
    | .inl s' => sys t ps n s'
    | .inr r => .inr r) = r
  rw [h]
  exact h2
theorem Rt.en {t ps : List Nat} {a : Sy} {e : Nat ⊕ List It} (h : sy t ps a = .inr e) : Rt t ps a (.inr e) := by
  refine ⟨1, ?_⟩
  show (match sy t ps a with
    | .inl s' => sys t ps 0 s'
    | .inr r => .inr r) = .inr e
  rw [h]
theorem Rt.tr {t ps : List Nat} {a b : Sy} {r : Se} (h : Rt t ps a (.inl b)) (h2 : Rt t ps b r) : Rt t ps a r := by
  obtain ⟨n, h⟩ := h
  induction n generalizing a with
  | zero =>
    have e : a = b := Sum.inl.inj h
    rw [e]
    exact h2
  | succ n ih =>
    have h9 : (match sy t ps a with
      | .inl s' => sys t ps n s'
      | .inr r => .inr r) = .inl b := h
    cases hs : sy t ps a with
    | inl s' =>
      rw [hs] at h9
      exact Rt.st hs (ih h9)
    | inr r' =>
      rw [hs] at h9
      cases h9
theorem sys_more {t ps : List Nat} {e : Nat ⊕ List It} : ∀ (n m : Nat) (a : Sy), sys t ps n a = .inr e → n ≤ m → sys t ps m a = .inr e := by
  intro n
  induction n with
  | zero => intro m a h; cases h
  | succ n ih =>
    intro m a h hm
    obtain ⟨k, rfl⟩ : ∃ k, m = k + 1 := ⟨m - 1, by omega⟩
    have h9 : (match sy t ps a with
      | .inl s' => sys t ps n s'
      | .inr r => .inr r) = .inr e := h
    show (match sy t ps a with
      | .inl s' => sys t ps k s'
      | .inr r => .inr r) = .inr e
    cases hs : sy t ps a with
    | inl s' =>
      rw [hs] at h9
      exact ih k s' h9 (by omega)
    | inr r' =>
      rw [hs] at h9
      exact h9
theorem Rt.det {t ps : List Nat} {a : Sy} {e e' : Nat ⊕ List It} (h : Rt t ps a (.inr e)) (h2 : Rt t ps a (.inr e')) : e = e' := by
  obtain ⟨n, h⟩ := h
  obtain ⟨m, h2⟩ := h2
  have q1 := sys_more n (n + m) a h (by omega)
  have q2 := sys_more m (n + m) a h2 (by omega)
  exact Sum.inr.inj (q1.symm.trans q2)
theorem stl_app {m : Nat} : ∀ {P S : List Wt} {L : List It}, (∀ w ∈ P, w.1 ≠ 40 ∧ m ≤ rk w.1) → stl m (P ++ S) L = stl m S (L ++ P.map emw) := by
  intro P
  induction P with
  | nil => intro S L _; rw [List.map_nil, List.append_nil]; rfl
  | cons w P ih =>
    intro S L h
    show (if w.1 ≠ 40 ∧ m ≤ rk w.1 then stl m (P ++ S) (L ++ [emw w]) else (w :: (P ++ S), L)) = _
    rw [if_pos (h w (List.mem_cons_self)), ih (fun u hu => h u (List.mem_cons_of_mem _ hu)), List.map_cons, List.append_assoc]
    rfl
theorem stl_stop {m : Nat} {S : List Wt} {L : List It} (h : ∀ w ∈ S.head?, ¬ (w.1 ≠ 40 ∧ m ≤ rk w.1)) : stl m S L = (S, L) := by
  cases S with
  | nil => rfl
  | cons w S => exact if_neg (h w rfl)
theorem opn_app (P S : List Wt) : opn (P ++ S) = opn P + opn S := by
  unfold opn
  rw [List.map_append, List.sum_append]
theorem opn_cons (w : Wt) (S : List Wt) : opn (w :: S) = opw w + opn S := by
  unfold opn
  rw [List.map_cons, List.sum_cons]
