/-! ===== the items of a line: their bounds ===== -/
def iok (t : List Nat) (it : It) : Prop := itb it ∧ (it.1 = 31 ∨ it.1 = 33 → wd it.2.1) ∧ (it.1 = 30 → Nat9 t it.2.2.2.1 ∧ it.2.2.2.2 = nmq t it.2.2.2.1)
def wok (i : Nat) (w : Wt) : Prop := (w.1 = 40 ∨ 1 ≤ w.1 ∧ w.1 ≤ 6 ∨ w.1 = 8) ∧ w.2.1 ≤ 200 ∧ (∀ u, w.2.2.1 = some u → wd u) ∧ 1 ≤ w.2.2.2 ∧ w.2.2.2 ≤ i
def Sok (t : List Nat) (n : Nat) (s : Sy) : Prop := s.2.2.2 < n ∧ (∀ it ∈ s.2.2.1, iok t it) ∧ ∀ w ∈ s.2.1, wok s.2.2.2 w
theorem wok.mo {i j : Nat} {w : Wt} (h : wok i w) (hij : i ≤ j) : wok j w := ⟨h.1, h.2.1, h.2.2.1, h.2.2.2.1, by have := h.2.2.2.2; omega⟩
theorem iok.emw {t : List Nat} {i : Nat} {w : Wt} (h : wok i w) (h40 : w.1 ≠ 40) : iok t (emw w) := by
  obtain ⟨h1, h2, _⟩ := h
  refine ⟨⟨?_, ?_, ?_, ?_, ?_⟩, ?_, ?_⟩
  · show w.1 < 100; omega
  · show 0 < 2147483648; omega
  · show 0 ≤ 200; omega
  · exact h2
  · show w.1 ≤ 8 ∨ 30 ≤ w.1; omega
  · intro q
    have q9 : w.1 = 31 ∨ w.1 = 33 := q
    omega
  · intro q
    have q9 : w.1 = 30 := q
    omega
theorem stl_ok {t : List Nat} {i m : Nat} : ∀ {S : List Wt} {L : List It}, (∀ w ∈ S, wok i w) → (∀ it ∈ L, iok t it) → (∀ w ∈ (stl m S L).1, wok i w) ∧ ∀ it ∈ (stl m S L).2, iok t it := by
  intro S
  induction S with
  | nil => intro L _ hL; exact ⟨fun w hw => (by cases hw), hL⟩
  | cons w S ih =>
    intro L hS hL
    unfold stl
    split
    · rename_i c
      refine ih (fun u hu => hS u (List.mem_cons_of_mem _ hu)) (fun it hit => ?_)
      rcases List.mem_append.mp hit with h | h
      · exact hL it h
      · rw [List.mem_singleton.mp h]
        exact iok.emw (hS w List.mem_cons_self) c.1
    · exact ⟨hS, hL⟩
def Rok (t : List Nat) (n : Nat) (r : Nat ⊕ List It) : Prop := match r with
  | .inl i => i < n
  | .inr L => ∀ it ∈ L, iok t it
def Eok (t : List Nat) (n : Nat) (r : Se) : Prop := match r with
  | .inl s => Sok t n s
  | .inr r => Rok t n r
theorem mem_one {α : Type} {P : α → Prop} {L : List α} {a : α} (h : ∀ x ∈ L, P x) (ha : P a) : ∀ x ∈ L ++ [a], P x := by
  intro x hx
  rcases List.mem_append.mp hx with q | q
  · exact h x q
  · rw [List.mem_singleton.mp q]; exact ha
theorem mem_cons {α : Type} {P : α → Prop} {L : List α} {a : α} (h : ∀ x ∈ L, P x) (ha : P a) : ∀ x ∈ a :: L, P x := by
  intro x hx
  rcases List.mem_cons.mp hx with q | q
  · rw [q]; exact ha
  · exact h x q
theorem syA_ok {t ps : List Nat} {n i : Nat} {S : List Wt} {L : List It} (hn : Ntk t n) (ht : t.length ≤ 200) (hps : ps.length ≤ 4) (h : Sok t n (false, S, L, i)) : Eok t n (syA t ps S L i) := by
  obtain ⟨hi, hL, hS⟩ := h
  have hi : i < n := hi
  have hL : ∀ it ∈ L, iok t it := hL
  have hS : ∀ w ∈ S, wok i w := hS
  obtain ⟨b1, b2, b3, b4, b5, b6, b7⟩ := tk_b (t := t) i
  unfold syA
  split
  · rename_i c
    have hN := lxs_2 (t := t) (s := ew isS t (tkp t i)) c
    refine ⟨hn.nx hi ⟨by omega, by omega⟩, mem_one hL ⟨⟨by show 30 < 100; omega, by show 0 < 2147483648; omega, by show 0 ≤ 200; omega, by show (tk t i).2.2.1 ≤ 200; omega, Or.inr (by show 30 ≤ 30; omega)⟩, fun q => ?_, fun _ => ⟨⟨?_, ?_, ?_⟩, rfl⟩⟩, fun w hw => (hS w hw).mo (Nat.le_succ _)⟩
    · exact absurd q (by simp)
    · show (tk t i).2.2.1 < t.length; rw [b1]; exact hN.2.2
    · show isD (tb t (tk t i).2.2.1) = true; rw [b1]; exact hN.2.1
    · show eN t (tk t i).2.2.1 ≠ none; rw [b1, hN.1]; exact fun q => by cases q
  rename_i c1
  split
  · rename_i c2
    split
    · exact hi
    · refine ⟨hn.nx hi ⟨by omega, by omega⟩, hL, mem_cons (fun w hw => (hS w hw).mo (Nat.le_succ _)) ⟨?_, by show (tk t i).2.2.1 ≤ 200; omega, fun u hu => (by cases hu), by show 1 ≤ 1; omega, by show 1 ≤ i + 1; omega⟩⟩
      show (if (tk t i).1 = 45 then 8 else 40) = 40 ∨ 1 ≤ (if (tk t i).1 = 45 then 8 else 40) ∧ (if (tk t i).1 = 45 then 8 else 40) ≤ 6 ∨ (if (tk t i).1 = 45 then 8 else 40) = 8
      split
      · exact Or.inr (Or.inr rfl)
      · exact Or.inl rfl
  rename_i c2
  split
  · exact hi
  rename_i c3
  have c3 := Classical.not_not.mp c3
  have hi1 := hn.nx hi ⟨by omega, by omega⟩
  have hw := b4 c3
  have hw2 := hw.2
  split
  · refine ⟨hi1, mem_one hL ?_, fun w hw => (hS w hw).mo (Nat.le_succ _)⟩
    unfold wdi
    cases hf : fix ps (tk t i).2.1 with
    | none => exact ⟨⟨by show 31 < 100; omega, by show (tk t i).2.1 < 2147483648; omega, by show 0 ≤ 200; omega, by show (tk t i).2.2.1 ≤ 200; omega, Or.inr (by show 30 ≤ 31; omega)⟩, fun _ => hw, fun q => absurd q (by simp)⟩
    | some j =>
      have := fix_lt hf
      exact ⟨⟨by show 32 < 100; omega, by show j < 2147483648; omega, by show 0 ≤ 200; omega, by show (tk t i).2.2.1 ≤ 200; omega, Or.inr (by show 30 ≤ 32; omega)⟩, fun q => absurd q (by simp), fun q => absurd q (by simp)⟩
  rename_i c4
  have c4 := Classical.not_not.mp c4
  split
  · exact hi1
  · exact ⟨hn.nx hi1 ⟨by omega, by omega⟩, hL, mem_cons (fun w hw => (hS w hw).mo (by show i ≤ i + 2; omega)) ⟨Or.inl rfl, by show (tk t i).2.2.1 ≤ 200; omega, fun u hu => by cases hu; exact hw, by show 1 ≤ 1; omega, by show 1 ≤ i + 2; omega⟩⟩
theorem syB_ok {t : List Nat} {n i : Nat} {S : List Wt} {L : List It} (hn : Ntk t n) (ht : t.length ≤ 200) (h : Sok t n (true, S, L, i)) : Eok t n (syB t S L i) := by
  have hnl := hn.le
  obtain ⟨hi, hL, hS⟩ := h
  have hi : i < n := hi
  have hL : ∀ it ∈ L, iok t it := hL
  have hS : ∀ w ∈ S, wok i w := hS
  obtain ⟨b1, b2, b3, b4, b5, b6, b7⟩ := tk_b (t := t) i
  unfold syB
  split
  · rename_i c
    exact ⟨hn.nx hi ⟨by omega, by omega⟩, mem_one hL ⟨⟨by show 7 < 100; omega, by show 0 < 2147483648; omega, by show 0 ≤ 200; omega, by show (tk t i).2.2.1 ≤ 200; omega, Or.inl (by show 7 ≤ 8; omega)⟩, fun q => absurd q (by simp), fun q => absurd q (by simp)⟩, fun w hw => (hS w hw).mo (Nat.le_succ _)⟩
  rename_i c1
  split
  · rename_i c
    obtain ⟨g1, g2⟩ := stl_ok (m := 1) hS hL
    cases hr : stl 1 S L with
    | mk S' L' =>
      rw [hr] at g1 g2
      cases S' with
      | nil => exact hi
      | cons w S' =>
        have hw : wok i w := g1 w List.mem_cons_self
        obtain ⟨w1, w2, w3, w4, w5⟩ := hw
        refine ⟨hn.nx hi ⟨by omega, by omega⟩, ?_, fun u hu => (g1 u (List.mem_cons_of_mem _ hu)).mo (Nat.le_succ _)⟩
        show ∀ it ∈ L' ++ cli w, iok t it
        unfold cli
        cases hu : w.2.2.1 with
        | none => rw [List.append_nil]; exact g2
        | some u =>
          have hwu := w3 u hu
          have hwu2 := hwu.2
          exact mem_one g2 ⟨⟨by show 33 < 100; omega, by show u < 2147483648; omega, by show w.2.2.2 ≤ 200; omega, w2, Or.inr (by show 30 ≤ 33; omega)⟩, fun _ => hwu, fun q => absurd q (by simp)⟩
  rename_i c2
  split
  · rename_i c
    split
    · exact hi
    · exact ⟨hn.nx hi ⟨by omega, by omega⟩, hL, mem_cons (fun w hw => (hS w hw).mo (Nat.le_succ _)) ⟨Or.inr (Or.inl ⟨by show 1 ≤ 6; omega, by show 6 ≤ 6; omega⟩), by show (tk t i).2.2.1 ≤ 200; omega, fun u hu => (by cases hu), by show 1 ≤ 1; omega, by show 1 ≤ i + 1; omega⟩⟩
  rename_i c3
  split
  · rename_i c
    obtain ⟨g1, g2⟩ := stl_ok (m := 1) hS hL
    cases hr : stl 1 S L with
    | mk S' L' =>
      rw [hr] at g1 g2
      cases S' with
      | nil => exact hi
      | cons w S' =>
        have hw : wok i w := g1 w List.mem_cons_self
        obtain ⟨w1, w2, w3, w4, w5⟩ := hw
        show Eok t n (if w.2.2.1 = none then .inr (.inl i) else .inl (false, (w.1, w.2.1, w.2.2.1, w.2.2.2 + 1) :: S', L', i + 1))
        split
        · exact hi
        · exact ⟨hn.nx hi ⟨by omega, by omega⟩, g2, mem_cons (fun u hu => (g1 u (List.mem_cons_of_mem _ hu)).mo (Nat.le_succ _)) ⟨w1, w2, w3, by show 1 ≤ w.2.2.2 + 1; omega, by show w.2.2.2 + 1 ≤ i + 1; omega⟩⟩
  rename_i c4
  split
  · rename_i c
    have hs := sgo_s c
    have hsb := sgo_b (tk t i).1
    obtain ⟨g1, g2⟩ := stl_ok (m := rk (sgo (tk t i).1)) hS hL
    exact ⟨hn.nx hi ⟨hs.1, hs.2.2.2.2.2.1⟩, g2, mem_cons (fun u hu => (g1 u hu).mo (Nat.le_succ _)) ⟨Or.inr (Or.inl ⟨by show 1 ≤ sgo (tk t i).1; omega, by show sgo (tk t i).1 ≤ 6; omega⟩), by show (tk t i).2.2.1 ≤ 200; omega, fun u hu => (by cases hu), by show 1 ≤ 1; omega, by show 1 ≤ i + 1; omega⟩⟩
  split
  · obtain ⟨g1, g2⟩ := stl_ok (m := 1) hS hL
    cases hr : stl 1 S L with
    | mk S' L' =>
      rw [hr] at g1 g2
      cases S' with
      | nil => exact g2
      | cons w S' => exact hi
  · exact hi
theorem sys_ok {t ps : List Nat} {n : Nat} (hn : Ntk t n) (ht : t.length ≤ 200) (hps : ps.length ≤ 4) : ∀ (k : Nat) (s : Sy), Sok t n s → Eok t n (sys t ps k s) := by
  intro k
  induction k with
  | zero => intro s h; exact h
  | succ k ih =>
    rintro ⟨b, S, L, i⟩ h
    have h1 : Eok t n (sy t ps (b, S, L, i)) := by
      cases b with
      | false => rw [sy_a]; exact syA_ok hn ht hps h
      | true => rw [sy_b]; exact syB_ok hn ht h
    show Eok t n (match sy t ps (b, S, L, i) with
      | .inl s' => sys t ps k s'
      | .inr r => .inr r)
    cases hs : sy t ps (b, S, L, i) with
    | inl s' => rw [hs] at h1; exact ih s' h1
    | inr r => rw [hs] at h1; exact h1
theorem Rt.ok {t ps : List Nat} {n i : Nat} {r : Nat ⊕ List It} (h : Rt t ps (false, [], [], i) (.inr r)) (hn : Ntk t n) (ht : t.length ≤ 200) (hps : ps.length ≤ 4) (hi : i < n) : Rok t n r := by
  obtain ⟨k, h⟩ := h
  have := sys_ok (ps := ps) hn ht hps k (false, [], [], i) ⟨hi, fun it hit => (by cases hit), fun w hw => by cases hw⟩
  rw [h] at this
  exact this
