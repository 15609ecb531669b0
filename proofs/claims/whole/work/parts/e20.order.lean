/-! ===== the order of fractions, rows in order ===== -/
def sv (q : Qv) : Int := q.1 * (q.2.1 : Int)
theorem cmp3_val (x y : Nat) : (x < y ∧ cmp3 x y = -1) ∨ (x = y ∧ cmp3 x y = 0) ∨ (y < x ∧ cmp3 x y = 1) := by
  unfold cmp3
  by_cases c : x < y
  · rw [if_pos c]; exact Or.inl ⟨c, rfl⟩
  · rw [if_neg c]
    by_cases d : x = y
    · rw [if_pos d]; exact Or.inr (Or.inl ⟨d, rfl⟩)
    · rw [if_neg d]; exact Or.inr (Or.inr ⟨by omega, rfl⟩)
theorem cmpq_hl {s t : Int} {x y : Nat} (p1 : s = 0 ∨ s = 1 ∨ s = -1) (q1 : t = 0 ∨ t = 1 ∨ t = -1) (hn : s = 0 ↔ x = 0) (hm : t = 0 ↔ y = 0) : (s * (x : Int) < t * (y : Int) ∧ (if s = t then s * cmp3 x y else if t ≤ s then 1 else -1) = -1) ∨ (s * (x : Int) = t * (y : Int) ∧ (if s = t then s * cmp3 x y else if t ≤ s then 1 else -1) = 0) ∨ (t * (y : Int) < s * (x : Int) ∧ (if s = t then s * cmp3 x y else if t ≤ s then 1 else -1) = 1) := by
  have hc := cmp3_val x y
  generalize cmp3 x y = C at *
  rcases p1 with z | z | z <;> rcases q1 with z' | z' | z' <;> subst z <;> subst z'
  · rw [if_pos rfl]; omega
  · rw [if_neg (by decide), if_neg (by decide)]; omega
  · rw [if_neg (by decide), if_pos (by decide)]; omega
  · rw [if_neg (by decide), if_pos (by decide)]; omega
  · rw [if_pos rfl]; omega
  · rw [if_neg (by decide), if_pos (by decide)]; omega
  · rw [if_neg (by decide), if_neg (by decide)]; omega
  · rw [if_neg (by decide), if_neg (by decide)]; omega
  · rw [if_pos rfl]; omega
theorem cmpq_sv {p q : Qv} (hp : qlow p) (hq : qlow q) : (sv p * (q.2.2 : Int) < sv q * (p.2.2 : Int) ∧ cmpq p q = -1) ∨ (sv p * (q.2.2 : Int) = sv q * (p.2.2 : Int) ∧ cmpq p q = 0) ∨ (sv q * (p.2.2 : Int) < sv p * (q.2.2 : Int) ∧ cmpq p q = 1) := by
  obtain ⟨s, n, d⟩ := p
  obtain ⟨t, m, e⟩ := q
  obtain ⟨p1, p2, p3, _⟩ := hp
  obtain ⟨q1, q2, q3, _⟩ := hq
  have p3 : 0 < d := p3
  have q3 : 0 < e := q3
  have p2 : s = 0 ↔ n = 0 := p2
  have q2 : t = 0 ↔ m = 0 := q2
  have hx : s = 0 ↔ n * e = 0 := by
    rw [p2, Nat.mul_eq_zero]; omega
  have hy : t = 0 ↔ m * d = 0 := by
    rw [q2, Nat.mul_eq_zero]; omega
  have h := cmpq_hl p1 q1 hx hy
  unfold sv cmpq
  show (s * (n : Int) * (e : Int) < t * (m : Int) * (d : Int) ∧ _) ∨ (s * (n : Int) * (e : Int) = t * (m : Int) * (d : Int) ∧ _) ∨ (t * (m : Int) * (d : Int) < s * (n : Int) * (e : Int) ∧ _)
  rw [Int.mul_assoc s, Int.mul_assoc t, ← Int.natCast_mul, ← Int.natCast_mul]
  exact h
theorem cmpq_lt0 {p q : Qv} (hp : qlow p) (hq : qlow q) : cmpq p q < 0 ↔ sv p * (q.2.2 : Int) < sv q * (p.2.2 : Int) := by
  rcases cmpq_sv hp hq with ⟨h1, h2⟩ | ⟨h1, h2⟩ | ⟨h1, h2⟩ <;> omega
theorem cmpq_le0 {p q : Qv} (hp : qlow p) (hq : qlow q) : cmpq p q ≤ 0 ↔ sv p * (q.2.2 : Int) ≤ sv q * (p.2.2 : Int) := by
  rcases cmpq_sv hp hq with ⟨h1, h2⟩ | ⟨h1, h2⟩ | ⟨h1, h2⟩ <;> omega
theorem cmpq_eq0 {p q : Qv} (hp : qlow p) (hq : qlow q) : cmpq p q = 0 ↔ p = q := by
  constructor
  · intro h
    rcases cmpq_sv hp hq with ⟨h1, h2⟩ | ⟨h1, h2⟩ | ⟨h1, h2⟩
    · omega
    · exact q_one hp hq h1
    · omega
  · rintro rfl
    rcases cmpq_sv hp hp with ⟨h1, h2⟩ | ⟨h1, h2⟩ | ⟨h1, h2⟩ <;> omega
theorem fr_trans {a b c : Int} {d e f : Nat} (he : 0 < e) (hf : 0 < f) (hd : 0 < d) (h1 : a * (e : Int) ≤ b * (d : Int)) (h2 : b * (f : Int) < c * (e : Int)) : a * (f : Int) < c * (d : Int) := by
  have x1 : a * e * f ≤ b * d * f := Int.mul_le_mul_of_nonneg_right h1 (by omega)
  have x2 : b * f * d < c * e * d := Int.mul_lt_mul_of_pos_right h2 (by omega)
  have y1 : a * e * f = a * f * e := by grind
  have y2 : b * d * f = b * f * d := by grind
  have y3 : c * e * d = c * d * e := by grind
  have x3 : a * f * e < c * d * e := by omega
  exact Int.lt_of_mul_lt_mul_right x3 (by omega)
theorem cmpq_lt_of {p q r : Qv} (hp : qlow p) (hq : qlow q) (hr : qlow r) (h1 : cmpq p q ≤ 0) (h2 : cmpq q r < 0) : cmpq p r < 0 := by
  rw [cmpq_le0 hp hq] at h1
  rw [cmpq_lt0 hq hr] at h2
  rw [cmpq_lt0 hp hr]
  exact fr_trans hq.2.2.1 hr.2.2.1 hp.2.2.1 h1 h2
theorem cmpq_flip {p q : Qv} (hp : qlow p) (hq : qlow q) : ¬ cmpq p q < 0 ↔ cmpq q p ≤ 0 := by
  rw [cmpq_lt0 hp hq, cmpq_le0 hq hp]
  omega
/-- a row in order -/
def Rwo (vs : List Qv) : Prop := (∀ q ∈ vs, qok q) ∧ vs.Pairwise fun p q => cmpq p q ≤ 0
theorem Rwo.tl {v : Qv} {vs : List Qv} (h : Rwo (v :: vs)) : Rwo vs := ⟨fun q hq => h.1 q (List.mem_cons_of_mem _ hq), (List.pairwise_cons.mp h.2).2⟩
theorem Rwo.up {v q : Qv} {vs : List Qv} (h : Rwo (v :: vs)) (hq : qok q) (hv : ¬ cmpq v q < 0) : ∀ u ∈ v :: vs, ¬ cmpq u q < 0 := by
  intro u hu z
  rcases List.mem_cons.mp hu with rfl | hu2
  · exact hv z
  · exact hv (cmpq_lt_of (h.1 v List.mem_cons_self).low (h.1 u hu).low hq.low ((List.pairwise_cons.mp h.2).1 u hu2) z)
theorem cbl_nlt {q : Qv} (hq : qok q) : ∀ {vs : List Qv}, Rwo vs → nlt q vs = cbl q vs
  | [], _ => rfl
  | v :: vs, h => by
    have ih := cbl_nlt hq h.tl
    unfold nlt at ih ⊢
    show _ = if cmpq v q < 0 then cbl q vs + 1 else 0
    rw [List.filter_cons]
    by_cases c : cmpq v q < 0
    · rw [if_pos (by simpa using c), if_pos c, List.length_cons, ih]
    · rw [if_neg (by simpa using c), if_neg c]
      refine List.length_eq_zero_iff.mpr (List.filter_eq_nil_iff.mpr fun u hu => ?_)
      have := h.up hq c u (List.mem_cons_of_mem _ hu)
      simpa using this
theorem csm_neq {q : Qv} (hq : qok q) : ∀ {vs : List Qv}, Rwo vs → neq q vs = csm q (vs.drop (cbl q vs))
  | [], _ => rfl
  | v :: vs, h => by
    have ih := csm_neq hq h.tl
    have hv := (h.1 v List.mem_cons_self).low
    unfold neq at ih ⊢
    have e : cbl q (v :: vs) = if cmpq v q < 0 then cbl q vs + 1 else 0 := rfl
    rw [e, List.filter_cons]
    by_cases c : cmpq v q < 0
    · rw [if_neg (by simp; omega), if_pos c, List.drop_succ_cons, ih]
    · rw [if_neg c, List.drop_zero]
      show _ = if v = q then csm q vs + 1 else 0
      by_cases d : v = q
      · have d0 := (cmpq_eq0 hv hq.low).mpr d
        have c0 : cbl q vs = 0 := by
          cases vs with
          | nil => rfl
          | cons u vs =>
            exact if_neg (h.up hq c u (List.mem_cons_of_mem _ List.mem_cons_self))
        rw [c0, List.drop_zero] at ih
        rw [if_pos d, if_pos (by simpa using d0), List.length_cons, ih]
      · have d0 := fun z => d ((cmpq_eq0 hv hq.low).mp z)
        rw [if_neg d, if_neg (by simpa using d0)]
        refine List.length_eq_zero_iff.mpr (List.filter_eq_nil_iff.mpr fun u hu => ?_)
        have hu2 := h.1 u (List.mem_cons_of_mem _ hu)
        have h1 := (List.pairwise_cons.mp h.2).1 u hu
        intro z
        have z : cmpq u q = 0 := by simpa using z
        have := (cmpq_eq0 hu2.low hq.low).mp z
        subst this
        exact d ((cmpq_eq0 hv hu2.low).mp (by omega))
theorem cbl_take {q : Qv} : ∀ {vs : List Qv}, ∀ u ∈ vs.take (cbl q vs), cmpq u q < 0
  | [], u, hu => by cases hu
  | v :: vs, u, hu => by
    have e : cbl q (v :: vs) = if cmpq v q < 0 then cbl q vs + 1 else 0 := rfl
    rw [e] at hu
    by_cases c : cmpq v q < 0
    · rw [if_pos c, List.take_succ_cons] at hu
      rcases List.mem_cons.mp hu with rfl | hu
      · exact c
      · exact cbl_take u hu
    · rw [if_neg c] at hu
      cases hu
theorem cbl_from {q : Qv} (hq : qok q) : ∀ {vs : List Qv}, Rwo vs → ∀ u ∈ vs.drop (cbl q vs), ¬ cmpq u q < 0
  | [], _, u, hu => by cases hu
  | v :: vs, h, u, hu => by
    have e : cbl q (v :: vs) = if cmpq v q < 0 then cbl q vs + 1 else 0 := rfl
    rw [e] at hu
    by_cases c : cmpq v q < 0
    · rw [if_pos c, List.drop_succ_cons] at hu
      exact cbl_from hq h.tl u hu
    · rw [if_neg c] at hu
      exact h.up hq c u hu
theorem Rwo.put {q : Qv} (hq : qok q) {vs : List Qv} (h : Rwo vs) : Rwo (plL vs (cbl q vs) 1 q) := by
  unfold plL
  rw [show cbl q vs + (1 - 1) = cbl q vs by omega]
  have ht : ∀ {u : Qv}, u ∈ vs.take (cbl q vs) → u ∈ vs := fun hu => List.mem_of_mem_take hu
  have hd : ∀ {u : Qv}, u ∈ vs.drop (cbl q vs) → u ∈ vs := fun hu => List.mem_of_mem_drop hu
  refine ⟨fun u hu => ?_, List.pairwise_append.mpr ⟨List.Pairwise.sublist (List.take_sublist _ _) h.2, List.pairwise_cons.mpr ⟨fun u hu => ?_, List.Pairwise.sublist (List.drop_sublist _ _) h.2⟩, fun u hu w hw => ?_⟩⟩
  · rcases List.mem_append.mp hu with z | z
    · exact h.1 u (ht z)
    · rcases List.mem_cons.mp z with rfl | z
      · exact hq
      · exact h.1 u (hd z)
  · exact (cmpq_flip (h.1 u (hd hu)).low hq.low).mp (cbl_from hq h u hu)
  · have hu1 := cbl_take u hu
    rcases List.mem_cons.mp hw with rfl | z
    · omega
    · have hz := (cmpq_flip (h.1 w (hd z)).low hq.low).mp (cbl_from hq h w z)
      have := (cmpq_lt0 (h.1 u (ht hu)).low hq.low).mp hu1
      have h2 := (cmpq_le0 hq.low (h.1 w (hd z)).low).mp hz
      refine (cmpq_le0 (h.1 u (ht hu)).low (h.1 w (hd z)).low).mpr ?_
      by_cases y : sv u * (w.2.2 : Int) ≤ sv w * (u.2.2 : Int)
      · exact y
      · exfalso
        have y2 : sv w * (u.2.2 : Int) < sv u * (w.2.2 : Int) := by omega
        have := fr_trans (h.1 w (hd z)).dp (h.1 u (ht hu)).dp hq.dp h2 y2
        omega
theorem Rwo.er {vs : List Qv} (h : Rwo vs) (k : Nat) : Rwo (vs.eraseIdx k) := ⟨fun q hq => h.1 q (List.mem_of_mem_eraseIdx hq), List.Pairwise.sublist (List.eraseIdx_sublist _ _) h.2⟩
/-- the row of the reference's answers -/
theorem neq_at {q : Qv} : ∀ {vs : List Qv} {u : Qv}, Rwo vs → qok q → vs[cbl q vs + csm q (vs.drop (cbl q vs))]? = some u → neq u vs = csm u (vs.drop (cbl q vs + csm q (vs.drop (cbl q vs)))) := by
  intro vs u h hq hu
  have hm := h.1 u (List.mem_of_getElem? hu)
  rw [csm_neq hm h]
  have key : cbl u vs = cbl q vs + csm q (vs.drop (cbl q vs)) := by
    have gen : ∀ (ws : List Qv) (k : Nat) (u : Qv), Rwo ws → ws[k]? = some u → (∀ j w, ws[j]? = some w → j < k → cmpq w u < 0) → cbl u ws = k := by
      intro ws
      induction ws with
      | nil => intro k u _ h; cases h
      | cons w ws ih =>
        intro k u hR hk hj
        have e : cbl u (w :: ws) = if cmpq w u < 0 then cbl u ws + 1 else 0 := rfl
        rw [e]
        cases k with
        | zero =>
          have hk : w = u := Option.some.inj hk
          subst hk
          rw [if_neg]
          have := (cmpq_eq0 (hR.1 _ List.mem_cons_self).low (hR.1 _ List.mem_cons_self).low).mpr (Eq.refl w)
          omega
        | succ k =>
          rw [if_pos (hj 0 w rfl (by omega)), ih k u hR.tl hk (fun j v hv hjk => hj (j + 1) v hv (by omega))]
    refine gen vs _ u h hu (fun j w hw hj => ?_)
    have hwq := h.1 w (List.mem_of_getElem? hw)
    by_cases c : j < cbl q vs
    · have hwt : w ∈ vs.take (cbl q vs) := List.mem_of_getElem? (by rw [List.getElem?_take, if_pos c]; exact hw)
      have h1 := cbl_take w hwt
      have h2 : cmpq q u ≤ 0 := by
        refine (cmpq_flip hm.low hq.low).mp (cbl_from hq h u ?_)
        exact List.mem_of_getElem? (i := csm q (vs.drop (cbl q vs))) (by rw [List.getElem?_drop]; exact hu)
      have h3 := (cmpq_lt0 hwq.low hq.low).mp h1
      have h4 := (cmpq_le0 hq.low hm.low).mp h2
      refine (cmpq_lt0 hwq.low hm.low).mpr ?_
      by_cases y : sv w * (u.2.2 : Int) < sv u * (w.2.2 : Int)
      · exact y
      · exfalso
        have y2 : sv u * (w.2.2 : Int) ≤ sv w * (u.2.2 : Int) := by omega
        have := fr_trans hwq.dp hq.dp hm.dp y2 h3
        omega
    · have run : ∀ (ws : List Qv) (i : Nat), i < csm q ws → ws[i]? = some q := by
        intro ws
        induction ws with
        | nil => intro i hi; exact absurd hi (Nat.not_lt_zero _)
        | cons v ws ih =>
          intro i hi
          have e : csm q (v :: ws) = if v = q then csm q ws + 1 else 0 := rfl
          rw [e] at hi
          by_cases c : v = q
          · rw [if_pos c] at hi
            cases i with
            | zero => rw [c]; rfl
            | succ i => exact ih i (by omega)
          · rw [if_neg c] at hi; omega
      have nxt : ∀ (ws : List Qv), ws[csm q ws]? ≠ some q := by
        intro ws
        induction ws with
        | nil => intro z; cases z
        | cons v ws ih =>
          have e : csm q (v :: ws) = if v = q then csm q ws + 1 else 0 := rfl
          rw [e]
          by_cases c : v = q
          · rw [if_pos c]; exact ih
          · rw [if_neg c]
            intro z
            exact c (Option.some.inj z)
      have hwv := run (vs.drop (cbl q vs)) (j - cbl q vs) (by omega)
      rw [List.getElem?_drop, show cbl q vs + (j - cbl q vs) = j by omega, hw] at hwv
      cases hwv
      have hu2 := nxt (vs.drop (cbl q vs))
      rw [List.getElem?_drop, hu] at hu2
      have hne : u ≠ q := fun z => hu2 (by rw [z])
      have h2 : cmpq q u ≤ 0 := by
        refine (cmpq_flip hm.low hq.low).mp (cbl_from hq h u ?_)
        exact List.mem_of_getElem? (i := csm q (vs.drop (cbl q vs))) (by rw [List.getElem?_drop]; exact hu)
      have h3 : cmpq q u ≠ 0 := fun z => hne ((cmpq_eq0 hq.low hm.low).mp z).symm
      omega
  rw [key]
