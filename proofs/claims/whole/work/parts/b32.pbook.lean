/-! ===== pure: books, when something is told ===== -/
def Wok (w : Nat) : Prop := wd w ∧ w % 27 ≠ 0
theorem wky_pow : ∀ (n w : Nat), ∃ k, wky n w = w * 27 ^ k := by
  intro n
  induction n with
  | zero => intro w; exact ⟨0, by show w = _; rw [Nat.pow_zero, Nat.mul_one]⟩
  | succ n ih =>
    intro w
    unfold wky
    split
    · exact ⟨0, by rw [Nat.pow_zero, Nat.mul_one]⟩
    · obtain ⟨k, hk⟩ := ih (w * 27)
      exact ⟨k + 1, by rw [hk, Nat.mul_assoc, Nat.pow_succ, Nat.mul_comm 27]⟩
theorem wkey_inj {u w : Nat} (hu : Wok u) (hw : Wok w) (h : wkey u = wkey w) : u = w := by
  have key : ∀ (a b x y : Nat), y % 27 ≠ 0 → x * 27 ^ a = y * 27 ^ b → b ≤ a → x * 27 ^ (a - b) = y := by
    intro a b x y _ e hab
    have e2 : x * 27 ^ (a - b) * 27 ^ b = y * 27 ^ b := by rw [Nat.mul_assoc, ← Nat.pow_add, Nat.sub_add_cancel hab]; exact e
    exact Nat.eq_of_mul_eq_mul_right (Nat.pow_pos (by omega)) e2
  obtain ⟨a, ha⟩ := wky_pow 6 u
  obtain ⟨b, hb⟩ := wky_pow 6 w
  have e : u * 27 ^ a = w * 27 ^ b := by rw [← ha, ← hb]; exact h
  have z : ∀ (x y d : Nat), y % 27 ≠ 0 → x * 27 ^ d = y → d = 0 := by
    intro x y d hy e
    cases d with
    | zero => rfl
    | succ d =>
      exfalso
      rw [Nat.pow_succ, ← Nat.mul_assoc] at e
      rw [← e, Nat.mul_mod_left] at hy
      exact hy rfl
  rcases Nat.le_total b a with q | q
  · have e1 := key a b u w hw.2 e q
    have := z _ _ _ hw.2 e1
    rw [this, Nat.pow_zero, Nat.mul_one] at e1
    exact e1
  · have e1 := key b a w u hu.2 e.symm q
    have := z _ _ _ hu.2 e1
    rw [this, Nat.pow_zero, Nat.mul_one] at e1
    exact e1.symm
/-- words in the order of a dictionary -/
def Srt (W : List Nat) : Prop := W.Pairwise fun a b => wkey a < wkey b
theorem Ths_srt {ns : List NE} {fs : List FE} : (Ths ns fs).Pairwise thlt ↔ Srt (ns.map (·.1)) ∧ Srt (fs.map (·.1)) := by
  unfold Ths Srt
  rw [List.pairwise_append, List.pairwise_map, List.pairwise_map, List.pairwise_map, List.pairwise_map]
  constructor
  · rintro ⟨h1, h2, _⟩
    refine ⟨h1.imp (fun {a b} h => ?_), h2.imp (fun {a b} h => ?_)⟩
    · rcases h with h | h
      · exact absurd h (Nat.lt_irrefl 0)
      · exact h.2
    · rcases h with h | h
      · exact absurd h (Nat.lt_irrefl 1)
      · exact h.2
  · rintro ⟨h1, h2⟩
    refine ⟨h1.imp (fun {a b} h => Or.inr ⟨rfl, h⟩), h2.imp (fun {a b} h => Or.inr ⟨rfl, h⟩), fun a ha b hb => ?_⟩
    obtain ⟨x, _, rfl⟩ := List.mem_map.mp ha
    obtain ⟨y, _, rfl⟩ := List.mem_map.mp hb
    exact Or.inl (show (0 : Nat) < 1 by omega)
theorem Srt.lt {W : List Nat} (h : Srt W) {i j u v : Nat} (hi : W[i]? = some u) (hj : W[j]? = some v) (hij : i < j) : wkey u < wkey v := by
  obtain ⟨i1, rfl⟩ := List.getElem?_eq_some_iff.mp hi
  obtain ⟨j1, rfl⟩ := List.getElem?_eq_some_iff.mp hj
  exact List.pairwise_iff_getElem.mp h i j i1 j1 hij
theorem Srt.unq {W : List Nat} (h : Srt W) : Unq W := by
  intro a b w ha hb
  rcases Nat.lt_trichotomy a b with q | q | q
  · exact absurd (h.lt ha hb q) (Nat.lt_irrefl _)
  · exact q
  · exact absurd (h.lt hb ha q) (Nat.lt_irrefl _)
theorem Unq.nd {W : List Nat} (h : Unq W) : W.Nodup := by
  unfold List.Nodup
  rw [List.pairwise_iff_getElem]
  intro i j hi hj hij e
  have := h i j W[i] (List.getElem?_eq_getElem hi) (by rw [e]; exact List.getElem?_eq_getElem hj)
  omega
theorem Unq.of {W : List Nat} (h : W.Nodup) : Unq W := by
  intro a b w ha hb
  obtain ⟨ha1, ha2⟩ := List.getElem?_eq_some_iff.mp ha
  obtain ⟨hb1, hb2⟩ := List.getElem?_eq_some_iff.mp hb
  unfold List.Nodup at h
  rw [List.pairwise_iff_getElem] at h
  rcases Nat.lt_trichotomy a b with q | q | q
  · exact absurd (ha2.trans hb2.symm) (h a b ha1 hb1 q)
  · exact q
  · exact absurd (hb2.trans ha2.symm) (h b a hb1 ha1 q)
theorem plL_map {α : Type} {f : α → Nat} {l : List α} {p u : Nat} {x : α} : (plL l p u x).map f = plL (l.map f) p u (f x) := by
  unfold plL
  rw [List.map_append, List.map_cons, List.map_take, List.map_drop]
theorem fix_of {W : List Nat} {w : Nat} : fix W w = none ↔ w ∉ W := by
  unfold fix
  rw [List.findIdx?_eq_none_iff]
  constructor
  · intro h hm
    have := h w hm
    simp at this
  · intro h x hx
    simp only [beq_eq_false_iff_ne, ne_eq]
    intro e
    exact h (e ▸ hx)
/-- where a word comes, all ahead is less and all behind is more -/
theorem Plc.ahead {W : List Nat} {w p : Nat} (h : Plc W w p) {v : Nat} (hv : v ∈ W.take p) : wkey v < wkey w := by
  obtain ⟨i, hi⟩ := List.getElem?_of_mem hv
  rw [List.getElem?_take] at hi
  split at hi
  · rename_i c
    exact h.2.1 i v c hi
  · cases hi
theorem Plc.behind {W : List Nat} {w p : Nat} (hs : Srt W) (hW : ∀ v ∈ W, Wok v) (hw : Wok w) (h : Plc W w p) {v : Nat} (hv : v ∈ W.drop (p + (1 - b01 (W[p]? ≠ some w)))) : wkey w < wkey v := by
  obtain ⟨i, hi⟩ := List.getElem?_of_mem hv
  rw [List.getElem?_drop] at hi
  have hin := (List.getElem?_eq_some_iff.mp hi).1
  obtain ⟨y, hy⟩ : ∃ y, W[p]? = some y := ⟨_, List.getElem?_eq_getElem (by omega)⟩
  have h2 := h.2.2 y hy
  by_cases c : W[p]? ≠ some w
  · rw [b01_p c] at hi
    have hne : wkey w ≠ wkey y := fun e => c (by rw [hy, wkey_inj hw (hW y (List.mem_of_getElem? hy)) e])
    by_cases d : i = 0
    · subst d
      rw [show p + (1 - 1) + 0 = p by omega, hy] at hi
      cases hi
      omega
    · have := hs.lt hy hi (by omega)
      omega
  · have cc := c
    rw [b01_n c] at hi
    have c := Classical.not_not.mp c
    have := hs.lt c hi (by omega)
    exact this
theorem Srt.pl {W : List Nat} {w p : Nat} (hs : Srt W) (hW : ∀ v ∈ W, Wok v) (hw : Wok w) (h : Plc W w p) : Srt (plL W p (b01 (W[p]? ≠ some w)) w) := by
  unfold plL Srt
  rw [List.pairwise_append]
  refine ⟨List.Pairwise.sublist (List.take_sublist _ _) hs, List.pairwise_cons.mpr ⟨fun v hv => Plc.behind hs hW hw h hv, List.Pairwise.sublist (List.drop_sublist _ _) hs⟩, fun a ha b hb => ?_⟩
  have h1 := h.ahead ha
  rcases List.mem_cons.mp hb with rfl | hb
  · exact h1
  · exact Nat.lt_trans h1 (Plc.behind hs hW hw h hb)
theorem plL_mem {α : Type} {f : α → Nat} {l : List α} {w p : Nat} {x y : α} (hs : Srt (l.map f)) (hW : ∀ v ∈ l.map f, Wok v) (hw : Wok w) (h : Plc (l.map f) w p) (hx : f x = w) : y ∈ plL l p (isN f l p w) x ↔ y = x ∨ (y ∈ l ∧ f y ≠ w) := by
  have hu : isN f l p w = b01 ((l.map f)[p]? ≠ some w) := rfl
  unfold plL
  rw [List.mem_append, List.mem_cons]
  constructor
  · rintro (h1 | h1 | h1)
    · refine Or.inr ⟨List.mem_of_mem_take h1, fun e => ?_⟩
      have := h.ahead (v := f y) (by rw [← List.map_take]; exact List.mem_map_of_mem h1)
      rw [e] at this
      exact Nat.lt_irrefl _ this
    · exact Or.inl h1
    · refine Or.inr ⟨List.mem_of_mem_drop h1, fun e => ?_⟩
      have := Plc.behind hs hW hw h (v := f y) (by rw [← List.map_drop, ← hu]; exact List.mem_map_of_mem h1)
      rw [e] at this
      exact Nat.lt_irrefl _ this
  · rintro (h1 | ⟨h1, h2⟩)
    · exact Or.inr (Or.inl h1)
    · obtain ⟨i, hi⟩ := List.getElem?_of_mem h1
      by_cases c : i < p
      · exact Or.inl (List.mem_of_getElem? (i := i) (by rw [List.getElem?_take, if_pos c]; exact hi))
      · refine Or.inr (Or.inr (List.mem_of_getElem? (i := i - (p + (1 - isN f l p w))) ?_))
        rw [List.getElem?_drop, ← hi]
        congr 1
        have hb := b01_le ((l.map f)[p]? ≠ some w)
        by_cases d : (l.map f)[p]? ≠ some w
        · rw [hu, b01_p d]
          omega
        · rw [hu, b01_n d]
          have d := Classical.not_not.mp d
          have : i ≠ p := fun e => by
            subst e
            rw [List.getElem?_map, hi] at d
            exact h2 (Option.some.inj d)
          omega
/-- with something new told there is no ring, if there was none -/
theorem Acy_tell {T T1 : List Th} {f w : Nat} {l : List It} (hm : ∀ e, e ∈ T1 → e = (f, w, l) ∨ e ∈ T) (hac : Acy T) (hcl : ∀ e ∈ T, usb e.2.2 f w = true → ∃ y ∈ T, y.1 = f ∧ y.2.1 = w) (hl : usb l f w = true → ∃ y ∈ T, y.1 = f ∧ y.2.1 = w) (hr : ∀ y ∈ T, y.1 = f → y.2.1 = w → ¬ Rch T l y) : Acy T1 := by
  have tr : ∀ {a : List It} {y z : Th}, Rch T a y → Rch T y.2.2 z → Rch T a z := by
    rintro a y z h ⟨n, h2⟩
    induction n generalizing a y with
    | zero => exact h.snoc h2
    | succ n ih =>
      obtain ⟨y', h3, h4⟩ := h2
      exact ih (h.snoc h3) h4
  have lemA : ∀ (n : Nat) (a : List It) (e : Th), Rcn T1 n a e → (usb a f w = true ∨ ∃ y ∈ T, Rch T a y ∧ usb y.2.2 f w = true) ∨ (e ∈ T ∧ Rch T a e) := by
    intro n
    induction n with
    | zero =>
      intro a e h
      rcases hm e h.1 with rfl | q
      · exact Or.inl (Or.inl h.2)
      · exact Or.inr ⟨q, Rch.one ⟨q, h.2⟩⟩
    | succ n ih =>
      rintro a e ⟨e', h1, h2⟩
      rcases hm e' h1.1 with rfl | q
      · exact Or.inl (Or.inl h1.2)
      · have ha : Adj T a e' := ⟨q, h1.2⟩
        rcases ih e'.2.2 e h2 with (g | ⟨y, g1, g2, g3⟩) | ⟨g1, g2⟩
        · exact Or.inl (Or.inr ⟨e', q, Rch.one ha, g⟩)
        · exact Or.inl (Or.inr ⟨y, g1, Rch.cons ha g2, g3⟩)
        · exact Or.inr ⟨g1, Rch.cons ha g2⟩
  have lemB : ∀ (n : Nat) (a : List It) (e : Th), Rcn T1 n a e → Rch T a e ∨ e = (f, w, l) ∨ Rch T1 l e := by
    intro n
    induction n with
    | zero =>
      intro a e h
      rcases hm e h.1 with q | q
      · exact Or.inr (Or.inl q)
      · exact Or.inl (Rch.one ⟨q, h.2⟩)
    | succ n ih =>
      rintro a e ⟨e', h1, h2⟩
      rcases hm e' h1.1 with rfl | q
      · exact Or.inr (Or.inr ⟨n, h2⟩)
      · rcases ih e'.2.2 e h2 with g | g | g
        · exact Or.inl (Rch.cons ⟨q, h1.2⟩ g)
        · exact Or.inr (Or.inl g)
        · exact Or.inr (Or.inr g)
  have noP : ¬ (usb l f w = true ∨ ∃ y ∈ T, Rch T l y ∧ usb y.2.2 f w = true) := by
    rintro (q | ⟨y, q1, q2, q3⟩)
    · obtain ⟨z, z1, z2, z3⟩ := hl q
      exact hr z z1 z2 z3 (Rch.one ⟨z1, by rw [z2, z3]; exact q⟩)
    · obtain ⟨z, z1, z2, z3⟩ := hcl y q1 q3
      exact hr z z1 z2 z3 (q2.snoc ⟨z1, by rw [z2, z3]; exact q3⟩)
  rintro e he ⟨n, h⟩
  by_cases c : e = (f, w, l)
  · subst c
    rcases lemA n l _ h with g | ⟨g1, g2⟩
    · exact noP g
    · exact hr _ g1 rfl rfl g2
  · have heT : e ∈ T := (hm e he).resolve_left c
    rcases lemA n e.2.2 e h with g | g
    · rcases lemB n e.2.2 e h with q | q | ⟨k, q⟩
      · exact hac e heT q
      · exact c q
      · rcases lemA k l e q with g' | ⟨_, g'⟩
        · exact noP g'
        · rcases g with g | ⟨y, g1, g2, g3⟩
          · exact noP (Or.inr ⟨e, heT, g', g⟩)
          · exact noP (Or.inr ⟨y, g1, tr g' g2, g3⟩)
    · exact hac e heT g.2
/-- nothing is unknown -/
theorem unk_none {ns : List NE} {fs : List FE} {l : List It} : unk ns fs l = none ↔ ∀ it ∈ l, iknown ns fs it = true := by
  have key : ∀ (l : List It) (p : Nat), l.foldl (ukf ns fs) (some p) ≠ none := by
    intro l
    induction l with
    | nil => intro p h; cases h
    | cons it l ih =>
      intro p
      rw [List.foldl_cons]
      have : ∃ q, ukf ns fs (some p) it = some q := by
        unfold ukf
        split
        · exact ⟨p, rfl⟩
        · simp only
          split
          · exact ⟨_, rfl⟩
          · exact ⟨_, rfl⟩
      obtain ⟨q, hq⟩ := this
      rw [hq]
      exact ih q
  unfold unk
  induction l with
  | nil => exact ⟨fun _ it h => (by cases h), fun _ => rfl⟩
  | cons it l ih =>
    rw [List.foldl_cons]
    by_cases c : iknown ns fs it = true
    · have : ukf ns fs none it = none := by unfold ukf; rw [if_pos c]
      rw [this]
      refine Iff.trans ih ?_
      constructor
      · intro h x hx
        rcases List.mem_cons.mp hx with rfl | hx
        · exact c
        · exact h x hx
      · intro h x hx
        exact h x (List.mem_cons_of_mem _ hx)
    · have : ukf ns fs none it = some it.2.2.2.1 := by unfold ukf; rw [if_neg c]
      rw [this]
      constructor
      · intro h
        exact absurd h (key l _)
      · intro h
        exact absurd (h it List.mem_cons_self) c
