/-! ===== the reference: what lasts between two calls ===== -/
/-- kept items, told things and kept values are as they were -/
def Kp (m vm k0 dn : Nat) (σ σ' : St) : Prop := Ol m k0 σ σ' ∧ (∀ a, 10 ≤ a → a ≤ 12 → ∀ j, j < dn → sA σ' (m + a) j = sA σ (m + a) j) ∧ ∀ i, 600 ≤ i → i < vm → sA σ' (m + 3) i = sA σ (m + 3) i ∧ ∀ k, k < 16 → sA σ' (m + 4) (16 * i + k) = sA σ (m + 4) (16 * i + k)
theorem Kp.rf {m vm k0 dn : Nat} {σ : St} : Kp m vm k0 dn σ σ := ⟨Ol.rf, fun _ _ _ _ _ => rfl, fun _ _ _ => ⟨rfl, fun _ _ => rfl⟩⟩
theorem Kp.tr {m vm k0 dn : Nat} {σ σ1 σ2 : St} (h : Kp m vm k0 dn σ σ1) (h' : Kp m vm k0 dn σ1 σ2) : Kp m vm k0 dn σ σ2 :=
  ⟨h.1.tr h'.1, fun a p q j hj => (h'.2.1 a p q j hj).trans (h.2.1 a p q j hj), fun i p q => ⟨(h'.2.2 i p q).1.trans (h.2.2 i p q).1, fun k hk => ((h'.2.2 i p q).2 k hk).trans ((h.2.2 i p q).2 k hk)⟩⟩
theorem Kp.of {m vm k0 dn : Nat} {F A : List Nat} {V : Nat → Prop} {σ σ' : St} (h : rfM m F A V σ σ') (hA : (6 ∉ A ∧ 7 ∉ A ∧ 8 ∉ A ∧ 9 ∉ A) ∧ 10 ∉ A ∧ 11 ∉ A ∧ 12 ∉ A) (hv : ∀ i, 600 ≤ i → i < vm → ¬ V i) : Kp m vm k0 dn σ σ' := by
  refine ⟨Ol.of h hA.1, fun a p q j _ => ?_, fun i p q => ⟨(h.2.2.2 i (hv i p q)).1, fun k hk => (h.2.2.2 i (hv i p q)).2 k hk⟩⟩
  have e : a = 10 ∨ a = 11 ∨ a = 12 := by omega
  rcases e with rfl | rfl | rfl
  · rw [h.ar 10 ⟨hA.2.1, by omega, by omega⟩]
  · rw [h.ar 11 ⟨hA.2.2.1, by omega, by omega⟩]
  · rw [h.ar 12 ⟨hA.2.2.2, by omega, by omega⟩]
theorem Kp.mo {m vm k0 dn vm' k0' dn' : Nat} {σ σ' : St} (h : Kp m vm k0 dn σ σ') (h1 : vm' ≤ vm) (h2 : k0' ≤ k0) (h3 : dn' ≤ dn) : Kp m vm' k0' dn' σ σ' :=
  ⟨fun a p q j hj => h.1 a p q j (by omega), fun a p q j hj => h.2.1 a p q j (by omega), fun i p q => h.2.2 i p (by omega)⟩
theorem Vl.kp {m vm k0 dn i : Nat} {q : Qv} {σ σ' : St} (h : Vl σ m i q) (hK : Kp m vm k0 dn σ σ') (hi : 600 ≤ i ∧ i < vm) : Vl σ' m i q := by
  obtain ⟨g1, g2⟩ := hK.2.2 i hi.1 hi.2
  refine ⟨h.1, g1.trans h.2.1, fun k hk => (g2 k (by omega)).trans (h.2.2.1 k hk), fun k hk => ?_⟩
  have := g2 (8 + k) (by omega)
  rw [show 16 * i + 8 + k = 16 * i + (8 + k) by omega, this, show 16 * i + (8 + k) = 16 * i + 8 + k by omega]
  exact h.2.2.2 k hk
theorem Kv.kp {m vm k0 dn i : Nat} {q : Qv} {σ σ' : St} (h : Kv σ m vm i q) (hK : Kp m vm k0 dn σ σ') : Kv σ' m vm i q := ⟨h.1, h.2.kp hK ⟨h.1.1, h.1.2.1⟩⟩
theorem Its.kp {m vm k0 dn s : Nat} {l : List It} {σ σ' : St} (h : Its σ m vm s l) (hK : Kp m vm k0 dn σ σ') (hs : s + l.length ≤ k0) : Its σ' m vm s l := by
  refine ⟨h.1, fun j it e => ?_⟩
  have hj := (List.getElem?_eq_some_iff.mp e).1
  obtain ⟨h0, h1, h2, h3, h4, h5⟩ := h.2 j it e
  refine ⟨h0, (hK.1 6 (by omega) (by omega) _ (by omega)).trans h1, fun q => ?_, fun q => (hK.1 7 (by omega) (by omega) _ (by omega)).trans (h3 q), (hK.1 8 (by omega) (by omega) _ (by omega)).trans h4, (hK.1 9 (by omega) (by omega) _ (by omega)).trans h5⟩
  obtain ⟨vi, q1, q2⟩ := h2 q
  exact ⟨vi, (hK.1 7 (by omega) (by omega) _ (by omega)).trans q1, q2.kp hK⟩
/-- something told, below the counts -/
def Dfk (σ : St) (m vm k0 dn d : Nat) (l : List It) (np : Nat) : Prop := (d < dn ∧ dn ≤ 600 ∧ np ≤ 4) ∧ ∃ s, s + l.length ≤ k0 ∧ sA σ (m + 10) d = nI s ∧ sA σ (m + 11) d = nI (s + l.length) ∧ sA σ (m + 12) d = nI np ∧ Its σ m vm s l
theorem Dfk.D {σ : St} {m vm k0 dn d np : Nat} {l : List It} (h : Dfk σ m vm k0 dn d l np) : Dfn σ m vm d l np := by
  obtain ⟨⟨h1, h2, h3⟩, s, h4, h5⟩ := h
  exact ⟨by omega, h3, s, h5⟩
theorem Dfk.kp {m vm k0 dn d np : Nat} {l : List It} {σ σ' : St} (h : Dfk σ m vm k0 dn d l np) (hK : Kp m vm k0 dn σ σ') : Dfk σ' m vm k0 dn d l np := by
  obtain ⟨h1, s, h4, h5, h6, h7, h8⟩ := h
  exact ⟨h1, s, h4, (hK.2.1 10 (by omega) (by omega) d h1.1).trans h5, (hK.2.1 11 (by omega) (by omega) d h1.1).trans h6, (hK.2.1 12 (by omega) (by omega) d h1.1).trans h7, h8.kp hK h4⟩
theorem Dfk.up {σ : St} {m vm k0 dn d np vm' k0' dn' : Nat} {l : List It} (h : Dfk σ m vm k0 dn d l np) (h1 : vm ≤ vm' ∧ vm' ≤ 12600) (h2 : k0 ≤ k0') (h3 : dn ≤ dn' ∧ dn' ≤ 600) : Dfk σ m vm' k0' dn' d l np := by
  obtain ⟨g1, s, h4, h5, h6, h7, h8⟩ := h
  exact ⟨⟨by omega, h3.2, g1.2.2⟩, s, by omega, h5, h6, h7, h8.up h1.1 h1.2⟩
/-- the rows of values -/
def Rws (σ : St) (m vm : Nat) (cn cv : Nat → Int32) (rs : List (List Qv)) : Prop := rs.length = 3 ∧ ∀ r vs, rs[r]? = some vs → cn r = nI vs.length ∧ vs.length ≤ 50 ∧ ∀ i q, vs[i]? = some q → ∃ vi, cv (50 * r + i) = nI vi ∧ Kv σ m vm vi q
theorem Rws.kp {m vm k0 dn : Nat} {cn cv : Nat → Int32} {rs : List (List Qv)} {σ σ' : St} (h : Rws σ m vm cn cv rs) (hK : Kp m vm k0 dn σ σ') : Rws σ' m vm cn cv rs := by
  refine ⟨h.1, fun r vs hr => ?_⟩
  obtain ⟨h1, h2, h3⟩ := h.2 r vs hr
  refine ⟨h1, h2, fun i q hi => ?_⟩
  obtain ⟨vi, h4, h5⟩ := h3 i q hi
  exact ⟨vi, h4, h5.kp hK⟩
theorem Rws.up {m vm vm' : Nat} {cn cv : Nat → Int32} {rs : List (List Qv)} {σ : St} (h : Rws σ m vm cn cv rs) (h1 : vm ≤ vm' ∧ vm' ≤ 12600) : Rws σ m vm' cn cv rs := by
  refine ⟨h.1, fun r vs hr => ?_⟩
  obtain ⟨g1, h2, h3⟩ := h.2 r vs hr
  refine ⟨g1, h2, fun i q hi => ?_⟩
  obtain ⟨vi, h4, h5⟩ := h3 i q hi
  exact ⟨vi, h4, h5.up h1.1 h1.2⟩
theorem Rws.eq {m vm : Nat} {cn cv cn' cv' : Nat → Int32} {rs : List (List Qv)} {σ : St} (h : Rws σ m vm cn cv rs) (h1 : ∀ r, r < 3 → cn r = cn' r) (h2 : ∀ i, i < 150 → cv i = cv' i) : Rws σ m vm cn' cv' rs := by
  refine ⟨h.1, fun r vs hr => ?_⟩
  have hr3 := (List.getElem?_eq_some_iff.mp hr).1
  rw [h.1] at hr3
  obtain ⟨g1, g2, h3⟩ := h.2 r vs hr
  refine ⟨(h1 r hr3).symm.trans g1, g2, fun i q hi => ?_⟩
  have hi2 := (List.getElem?_eq_some_iff.mp hi).1
  obtain ⟨vi, h4, h5⟩ := h3 i q hi
  exact ⟨vi, (h2 _ (by omega)).symm.trans h4, h5⟩
/-- names, functions and rows, as a record of the reference's tells them -/
def Snp (σ : St) (m vm k0 dn : Nat) (c : Rd) (A : As) : Prop := (c.1 = nI A.1.length ∧ A.1.length ≤ 20 ∧ c.2.1 = nI A.2.1.length ∧ A.2.1.length ≤ 10) ∧
  (∀ k e, A.1[k]? = some e → c.2.2.1 k = nI e.1 ∧ e.1 < 2147483648 ∧ (∃ d, c.2.2.2.1 k = nI d ∧ Dfk σ m vm k0 dn d e.2.1 0) ∧ ∃ vi, c.2.2.2.2.1 k = nI vi ∧ Kv σ m vm vi e.2.2) ∧
  (∀ k e, A.2.1[k]? = some e → c.2.2.1 (20 + k) = nI e.1 ∧ e.1 < 2147483648 ∧ ∃ d, c.2.2.2.1 (20 + k) = nI d ∧ Dfk σ m vm k0 dn d e.2.2 e.2.1) ∧ Rws σ m vm c.2.2.2.2.2.1 c.2.2.2.2.2.2 A.2.2
theorem Snp.kp {m vm k0 dn : Nat} {c : Rd} {A : As} {σ σ' : St} (h : Snp σ m vm k0 dn c A) (hK : Kp m vm k0 dn σ σ') : Snp σ' m vm k0 dn c A := by
  obtain ⟨h1, h2, h3, h4⟩ := h
  refine ⟨h1, fun k e he => ?_, fun k e he => ?_, h4.kp hK⟩
  · obtain ⟨a1, a2, ⟨d, a3, a4⟩, vi, a5, a6⟩ := h2 k e he
    exact ⟨a1, a2, ⟨d, a3, a4.kp hK⟩, vi, a5, a6.kp hK⟩
  · obtain ⟨a1, a2, d, a3, a4⟩ := h3 k e he
    exact ⟨a1, a2, d, a3, a4.kp hK⟩
theorem Snp.up {m vm k0 dn vm' k0' dn' : Nat} {c : Rd} {A : As} {σ : St} (h : Snp σ m vm k0 dn c A) (g1 : vm ≤ vm' ∧ vm' ≤ 12600) (g2 : k0 ≤ k0') (g3 : dn ≤ dn' ∧ dn' ≤ 600) : Snp σ m vm' k0' dn' c A := by
  obtain ⟨h1, h2, h3, h4⟩ := h
  refine ⟨h1, fun k e he => ?_, fun k e he => ?_, h4.up g1⟩
  · obtain ⟨a1, a2, ⟨d, a3, a4⟩, vi, a5, a6⟩ := h2 k e he
    exact ⟨a1, a2, ⟨d, a3, a4.up g1 g2 g3⟩, vi, a5, a6.up g1.1 g1.2⟩
  · obtain ⟨a1, a2, d, a3, a4⟩ := h3 k e he
    exact ⟨a1, a2, d, a3, a4.up g1 g2 g3⟩
theorem Snp.rd {m vm k0 dn : Nat} {c c' : Rd} {A : As} {σ : St} (h : Snp σ m vm k0 dn c A) (hc : Rda c c') : Snp σ m vm k0 dn c' A := by
  obtain ⟨⟨b1, b2, b3, b4⟩, h2, h3, h4⟩ := h
  obtain ⟨c1, c2, c3, c4, c5⟩ := hc
  refine ⟨⟨c1.symm.trans b1, b2, c2.symm.trans b3, b4⟩, fun k e he => ?_, fun k e he => ?_, h4.eq c4 c5⟩
  · have hk := (List.getElem?_eq_some_iff.mp he).1
    obtain ⟨a1, a2, ⟨d, a3, a4⟩, vi, a5, a6⟩ := h2 k e he
    obtain ⟨u1, u2, u3⟩ := c3 k (by omega)
    exact ⟨u1.symm.trans a1, a2, ⟨d, u2.symm.trans a3, a4⟩, vi, u3.symm.trans a5, a6⟩
  · have hk := (List.getElem?_eq_some_iff.mp he).1
    obtain ⟨a1, a2, d, a3, a4⟩ := h3 k e he
    obtain ⟨u1, u2, u3⟩ := c3 (20 + k) (by omega)
    exact ⟨u1.symm.trans a1, a2, d, u2.symm.trans a3, a4⟩
theorem Snp.B {m vm k0 dn : Nat} {A : As} {σ : St} (h : Snp σ m vm k0 dn (curR σ m) A) : Rbk σ m vm A.1 A.2.1 := by
  obtain ⟨⟨b1, b2, b3, b4⟩, h2, h3, h4⟩ := h
  refine ⟨⟨b1, b2, b3, b4⟩, fun k e he => ?_, fun k e he => ?_⟩
  · obtain ⟨a1, a2, ⟨d, a3, a4⟩, a5⟩ := h2 k e he
    exact ⟨a1, a2, ⟨d, a3, a4.D⟩, a5⟩
  · obtain ⟨a1, a2, d, a3, a4⟩ := h3 k e he
    exact ⟨a1, a2, d, a3, a4.D⟩
theorem nI_inj {a b : Nat} (ha : a < 2147483648) (hb : b < 2147483648) (h : nI a = nI b) : a = b := (sm_eq ha hb).mp h
/-- what is told stands below the counts -/
theorem Dfk.of {σ : St} {m vm k0 dn d np z : Nat} {l : List It} (h : Dfn σ m vm d l np) (hb : d < dn ∧ dn ≤ 600) (e : sA σ (m + 11) d = nI z) (hz : z ≤ k0 ∧ k0 ≤ 12000) : Dfk σ m vm k0 dn d l np := by
  obtain ⟨h0, h1, s, h2, h3, h4, h5⟩ := h
  have h6 := h5.1
  have : s + l.length = z := nI_inj (by omega) (by omega) (h3.symm.trans e)
  exact ⟨⟨hb.1, hb.2, h1⟩, s, by omega, h2, h3, h4, h5⟩
/-- something is told: the record that follows -/
theorem Snp.tell {σ σ' : St} {m vm vm' k0 k1 dn tp : Nat} {A : As} {ns' : List NE} {fs' : List FE} (hS : Snp σ m vm k0 dn (curR σ m) A) (hK : Kp m vm k1 (dn + 1) σ σ') (hdn : dn + 1 ≤ 600) (hk : k0 ≤ k1 ∧ k1 ≤ 12000) (hv : vm ≤ vm' ∧ vm' ≤ 12600) (he : sA σ (m + 11) dn = nI k1) (hB : Rbk σ' m vm' ns' fs') (h36 : sA σ' (m + 36) = sA σ (m + 36)) (h37 : sA σ' (m + 37) = sA σ (m + 37))
    (ht : sA σ' (m + 19) tp = nI dn) (ho : ∀ k, k ≠ tp → sA σ' (m + 19) k = sA σ (m + 19) k) (h1 : ∀ k, k < ns'.length → k ≠ tp → k < A.1.length) (h2 : ∀ k, k < fs'.length → 20 + k ≠ tp → k < A.2.1.length) : Snp σ' m vm' k1 (dn + 1) (curR σ' m) (ns', fs', A.2.2) := by
  have key : ∀ (t d np : Nat) (l : List It), sA σ' (m + 19) t = nI d → Dfn σ' m vm' d l np → (t ≠ tp → ∃ (d0 np0 : Nat) (l0 : List It), sA σ (m + 19) t = nI d0 ∧ Dfk σ m vm k0 dn d0 l0 np0) → Dfk σ' m vm' k1 (dn + 1) d l np := by
    intro t d np l a1 a2 a3
    have hd := a2.1
    by_cases c : t = tp
    · subst c
      have : d = dn := nI_inj (by omega) (by omega) (a1.symm.trans ht)
      subst this
      exact Dfk.of a2 ⟨by omega, hdn⟩ ((hK.2.1 11 (by omega) (by omega) d (by omega)).trans he) ⟨Nat.le_refl _, hk.2⟩
    · obtain ⟨d0, np0, l0, g1, ⟨g2, g3, g4⟩, s, g5, g6, g7, g8⟩ := a3 c
      have : d = d0 := nI_inj (by omega) (by omega) (a1.symm.trans ((ho t c).trans g1))
      subst this
      exact Dfk.of a2 ⟨by omega, hdn⟩ ((hK.2.1 11 (by omega) (by omega) d (by omega)).trans g7) ⟨by omega, hk.2⟩
  obtain ⟨b1, b2, b3⟩ := hB
  obtain ⟨s1, s2, s3, s4⟩ := hS
  refine ⟨b1, fun k e hk' => ?_, fun k e hk' => ?_, ?_⟩
  · obtain ⟨a1, a2, ⟨d, a3, a4⟩, a5⟩ := b2 k e hk'
    refine ⟨a1, a2, ⟨d, a3, key k d 0 e.2.1 a3 a4 (fun c => ?_)⟩, a5⟩
    obtain ⟨_, _, ⟨d0, g1, g2⟩, _⟩ := s2 k _ (List.getElem?_eq_getElem (h1 k (List.getElem?_eq_some_iff.mp hk').1 c))
    exact ⟨d0, _, _, g1, g2⟩
  · obtain ⟨a1, a2, d, a3, a4⟩ := b3 k e hk'
    refine ⟨a1, a2, d, a3, key (20 + k) d e.2.1 e.2.2 a3 a4 (fun c => ?_)⟩
    obtain ⟨_, _, d0, g1, g2⟩ := s3 k _ (List.getElem?_eq_getElem (h2 k (List.getElem?_eq_some_iff.mp hk').1 c))
    exact ⟨d0, _, _, g1, g2⟩
  · have s4 : Rws σ' m vm (sA σ (m + 37)) (sA σ (m + 36)) A.2.2 := Rws.kp (k0 := k1) (dn := dn + 1) s4 hK
    show Rws σ' m vm' (sA σ' (m + 37)) (sA σ' (m + 36)) A.2.2
    rw [h36, h37]
    exact s4.up hv
/-- two rows of records and states, side by side -/
def All2 (σ : St) (m vm k0 dn : Nat) (U : List Rd) (UA : List As) : Prop := U.length = UA.length ∧ ∀ (k : Nat) (c : Rd) (A : As), U[k]? = some c → UA[k]? = some A → Snp σ m vm k0 dn c A
theorem All2.kp {m vm k0 dn : Nat} {U : List Rd} {UA : List As} {σ σ' : St} (h : All2 σ m vm k0 dn U UA) (hK : Kp m vm k0 dn σ σ') : All2 σ' m vm k0 dn U UA := ⟨h.1, fun k c A h1 h2 => (h.2 k c A h1 h2).kp hK⟩
theorem All2.up {m vm k0 dn vm' k0' dn' : Nat} {U : List Rd} {UA : List As} {σ : St} (h : All2 σ m vm k0 dn U UA) (g1 : vm ≤ vm' ∧ vm' ≤ 12600) (g2 : k0 ≤ k0') (g3 : dn ≤ dn' ∧ dn' ≤ 600) : All2 σ m vm' k0' dn' U UA := ⟨h.1, fun k c A h1 h2 => (h.2 k c A h1 h2).up g1 g2 g3⟩
theorem All2.nil {σ : St} {m vm k0 dn : Nat} : All2 σ m vm k0 dn [] [] := ⟨rfl, fun k c A h => by cases h⟩
theorem All2.snoc {σ : St} {m vm k0 dn : Nat} {U : List Rd} {UA : List As} {c : Rd} {A : As} (h : All2 σ m vm k0 dn U UA) (hc : Snp σ m vm k0 dn c A) : All2 σ m vm k0 dn (U ++ [c]) (UA ++ [A]) := by
  refine ⟨by rw [List.length_append, List.length_append, h.1]; rfl, fun k c' A' h1 h2 => ?_⟩
  rcases Nat.lt_trichotomy k U.length with q | q | q
  · rw [List.getElem?_append_left q] at h1
    rw [List.getElem?_append_left (by rw [← h.1]; exact q)] at h2
    exact h.2 k c' A' h1 h2
  · rw [List.getElem?_append_right (by omega), show k - U.length = 0 by omega] at h1
    rw [List.getElem?_append_right (by rw [← h.1]; omega), ← h.1, show k - U.length = 0 by omega] at h2
    cases h1
    cases h2
    exact hc
  · exfalso
    rw [List.getElem?_eq_none (by rw [List.length_append, List.length_singleton]; omega)] at h1
    cases h1
theorem All2.tail {σ : St} {m vm k0 dn : Nat} {U : List Rd} {UA : List As} (h : All2 σ m vm k0 dn U UA) : All2 σ m vm k0 dn U.tail UA.tail := by
  refine ⟨by rw [List.length_tail, List.length_tail, h.1], fun k c A h1 h2 => ?_⟩
  rw [List.getElem?_tail] at h1 h2
  exact h.2 (k + 1) c A h1 h2
/-- the top record comes off, its state with it -/
theorem All2.init {σ : St} {m vm k0 dn : Nat} {U : List Rd} {UA : List As} {c : Rd} (h : All2 σ m vm k0 dn (U ++ [c]) UA) : ∃ UA' A, UA = UA' ++ [A] ∧ All2 σ m vm k0 dn U UA' ∧ Snp σ m vm k0 dn c A := by
  have hl := h.1
  rw [List.length_append, List.length_singleton] at hl
  have hne : UA ≠ [] := fun z => by rw [z] at hl; cases hl
  refine ⟨UA.dropLast, UA.getLast hne, (List.dropLast_concat_getLast hne).symm, ⟨by rw [List.length_dropLast]; omega, fun k c' A' h1 h2 => ?_⟩, ?_⟩
  · have hk := (List.getElem?_eq_some_iff.mp h1).1
    refine h.2 k c' A' (by rw [List.getElem?_append_left hk]; exact h1) ?_
    rw [← List.dropLast_concat_getLast hne, List.getElem?_append_left (by rw [List.length_dropLast]; omega)]
    exact h2
  · refine h.2 U.length c _ (by rw [List.getElem?_append_right (Nat.le_refl _), Nat.sub_self]; rfl) ?_
    rw [List.getLast_eq_getElem, ← List.getElem?_eq_getElem]
    congr 1
    omega
/-- the present state, those that can be undone, those that can be done again -/
def RH (σ : St) (m vm k0 dn : Nat) (A : As) (UA DA : List As) : Prop := ∃ c U D, RHi σ m c U D ∧ Snp σ m vm k0 dn c A ∧ All2 σ m vm k0 dn U UA ∧ All2 σ m vm k0 dn D DA
theorem RH.cur {σ : St} {m vm k0 dn : Nat} {A : As} {UA DA : List As} (h : RH σ m vm k0 dn A UA DA) : Snp σ m vm k0 dn (curR σ m) A := by
  obtain ⟨c, U, D, h1, h2, _⟩ := h
  exact h2.rd h1.1.sy
theorem RH.keep {σ σ' : St} {m vm k0 dn : Nat} {A : As} {UA DA : List As} {F B : List Nat} {V : Nat → Prop} (h : RH σ m vm k0 dn A UA DA) (hR : rfM m F B V σ σ') (hK : Kp m vm k0 dn σ σ') (hF : 40 ∉ F ∧ 41 ∉ F ∧ 72 ∉ F ∧ 73 ∉ F) (hA : 18 ∉ B ∧ 19 ∉ B ∧ 20 ∉ B ∧ 36 ∉ B ∧ 37 ∉ B ∧ 39 ∉ B ∧ 40 ∉ B) : RH σ' m vm k0 dn A UA DA := by
  obtain ⟨c, U, D, h1, h2, h3, h4⟩ := h
  exact ⟨c, U, D, h1.keep hR hF hA, h2.kp hK, h3.kp hK, h4.kp hK⟩
theorem RH.up {σ : St} {m vm k0 dn vm' k0' dn' : Nat} {A : As} {UA DA : List As} (h : RH σ m vm k0 dn A UA DA) (g1 : vm ≤ vm' ∧ vm' ≤ 12600) (g2 : k0 ≤ k0') (g3 : dn ≤ dn' ∧ dn' ≤ 600) : RH σ m vm' k0' dn' A UA DA := by
  obtain ⟨c, U, D, h1, h2, h3, h4⟩ := h
  exact ⟨c, U, D, h1, h2.up g1 g2 g3, h3.up g1 g2 g3, h4.up g1 g2 g3⟩
/-- the refusal -/
def RRf (σ : St) (m : Nat) (r : Rfs) : Prop := Fi σ m 43 (iz r.1) ∧ Fi σ m 44 (iz r.2.1) ∧ Fi σ m 45 (iz r.2.2.1) ∧ Fi σ m 46 (nI r.2.2.2.length) ∧ r.2.2.2.length ≤ 30 ∧ ∀ i z, r.2.2.2[i]? = some z → sA σ (m + 35) i = iz z
theorem RRf.keep {σ σ' : St} {m : Nat} {r : Rfs} {F A : List Nat} {V : Nat → Prop} (h : RRf σ m r) (hR : rfM m F A V σ σ') (hF : 43 ∉ F ∧ 44 ∉ F ∧ 45 ∉ F ∧ 46 ∉ F) (hA : 35 ∉ A) : RRf σ' m r :=
  ⟨h.1.keep hR hF.1, h.2.1.keep hR hF.2.1, h.2.2.1.keep hR hF.2.2.1, h.2.2.2.1.keep hR hF.2.2.2, h.2.2.2.2.1, fun i z hz => by rw [hR.ar 35 ⟨hA, by omega, by omega⟩]; exact h.2.2.2.2.2 i z hz⟩
/-- the slots -/
def RSl (σ : St) (m vm : Nat) (qs : List Qv) : Prop := qs.length = 10 ∧ ∀ i q, qs[i]? = some q → ∃ vi, sA σ (m + 41) i = nI vi ∧ Kv σ m vm vi q
theorem RSl.keep {σ σ' : St} {m vm k0 dn : Nat} {qs : List Qv} {F A : List Nat} {V : Nat → Prop} (h : RSl σ m vm qs) (hR : rfM m F A V σ σ') (hK : Kp m vm k0 dn σ σ') (hA : 41 ∉ A) : RSl σ' m vm qs := by
  refine ⟨h.1, fun i q hi => ?_⟩
  obtain ⟨vi, h1, h2⟩ := h.2 i q hi
  exact ⟨vi, by rw [hR.ar 41 ⟨hA, by omega, by omega⟩]; exact h1, h2.kp hK⟩
theorem RSl.up {σ : St} {m vm vm' : Nat} {qs : List Qv} (h : RSl σ m vm qs) (g1 : vm ≤ vm' ∧ vm' ≤ 12600) : RSl σ m vm' qs := by
  refine ⟨h.1, fun i q hi => ?_⟩
  obtain ⟨vi, h1, h2⟩ := h.2 i q hi
  exact ⟨vi, h1, h2.up g1.1 g1.2⟩
/-- what is written -/
def RWr (σ : St) (m : Nat) (wr : List Nat) : Prop := Fi σ m 78 (nI wr.length) ∧ wr.length ≤ 300 ∧ ∀ i c, wr[i]? = some c → sA σ (m + 43) i = nI c ∧ c < 128
theorem RWr.keep {σ σ' : St} {m : Nat} {wr : List Nat} {F A : List Nat} {V : Nat → Prop} (h : RWr σ m wr) (hR : rfM m F A V σ σ') (hF : 78 ∉ F) (hA : 43 ∉ A) : RWr σ' m wr :=
  ⟨h.1.keep hR hF, h.2.1, fun i c hc => by rw [hR.ar 43 ⟨hA, by omega, by omega⟩]; exact h.2.2 i c hc⟩
/-- the answer -/
def RAn (σ : St) (m vm : Nat) (q : Qv) : Prop := ∃ vi, Fi σ m 57 (nI vi) ∧ Kv σ m vm vi q
theorem RAn.keep {σ σ' : St} {m vm k0 dn : Nat} {q : Qv} {F A : List Nat} {V : Nat → Prop} (h : RAn σ m vm q) (hR : rfM m F A V σ σ') (hK : Kp m vm k0 dn σ σ') (hF : 57 ∉ F) : RAn σ' m vm q := by
  obtain ⟨vi, h1, h2⟩ := h
  exact ⟨vi, h1.keep hR hF, h2.kp hK⟩
theorem RAn.up {σ : St} {m vm vm' : Nat} {q : Qv} (h : RAn σ m vm q) (g1 : vm ≤ vm' ∧ vm' ≤ 12600) : RAn σ m vm' q := by
  obtain ⟨vi, h1, h2⟩ := h
  exact ⟨vi, h1, h2.up g1.1 g1.2⟩
/-- tape, error position, refusal, answer, slots, what is written, steps, the present state, those before it, those behind it -/
abbrev Rst := List Nat × Int × Rfs × Qv × List Qv × List Nat × Sts × As × List As × List As
/-- how much is told: values, items, things -/
abbrev Rct := Nat × Nat × Nat
def RI (σ : St) (m : Nat) (c : Rct) (s : Rst) : Prop := (MS σ m ∧ RTx σ m s.1 ∧ Fi σ m 9 (iz s.2.1) ∧ RRf σ m s.2.2.1) ∧ (RAn σ m c.1 s.2.2.2.1 ∧ RSl σ m c.1 s.2.2.2.2.1 ∧ RWr σ m s.2.2.2.2.2.1 ∧ Shn σ m s.2.2.2.2.2.2.1) ∧ RH σ m c.1 c.2.1 c.2.2 s.2.2.2.2.2.2.2.1 s.2.2.2.2.2.2.2.2.1 s.2.2.2.2.2.2.2.2.2 ∧ (Fi σ m 5 (nI c.1) ∧ Fi σ m 21 (nI c.2.1) ∧ Fi σ m 25 (nI c.2.2)) ∧ 600 ≤ c.1 ∧ c.1 ≤ 12600 ∧ c.2.1 ≤ 12000 ∧ c.2.2 ≤ 600
/-- a frame that leaves all of it alone -/
def Fri (F A : List Nat) : Prop := (∀ f ∈ [5, 8, 9, 21, 25, 40, 41, 43, 44, 45, 46, 56, 57, 72, 73, 78], f ∉ F) ∧ ∀ a ∈ [5, 6, 7, 8, 9, 10, 11, 12, 18, 19, 20, 25, 35, 36, 37, 39, 40, 41, 43], a ∉ A
theorem RI.keep {σ σ' : St} {m : Nat} {c : Rct} {s : Rst} {F A : List Nat} {V : Nat → Prop} (h : RI σ m c s) (hR : rfM m F A V σ σ') (hF : Fri F A) (hv : ∀ i, 200 ≤ i → i < c.1 → ¬ V i ∨ 400 ≤ i ∧ i < 600) : RI σ' m c s := by
  obtain ⟨⟨a1, a2, a3, a4⟩, ⟨b1, b2, b3, b4⟩, d, ⟨e1, e2, e3⟩, f1, f2⟩ := h
  obtain ⟨g1, g2⟩ := hF
  have hK : Kp m c.1 c.2.1 c.2.2 σ σ' := Kp.of hR ⟨⟨g2 6 (by decide), g2 7 (by decide), g2 8 (by decide), g2 9 (by decide)⟩, g2 10 (by decide), g2 11 (by decide), g2 12 (by decide)⟩ (fun i h1 h2 => (hv i (by omega) h2).resolve_right (by omega))
  exact ⟨⟨hR.ms a1, a2.keep hR (g1 8 (by decide)) (g2 5 (by decide)), a3.keep hR (g1 9 (by decide)), a4.keep hR ⟨g1 43 (by decide), g1 44 (by decide), g1 45 (by decide), g1 46 (by decide)⟩ (g2 35 (by decide))⟩,
    ⟨b1.keep hR hK (g1 57 (by decide)), b2.keep hR hK (g2 41 (by decide)), b3.keep hR (g1 78 (by decide)) (g2 43 (by decide)), b4.keep hR (g1 56 (by decide)) (g2 25 (by decide)) (fun i h1 h2 => (hv i h1 (by omega)).resolve_right (by omega))⟩,
    d.keep hR hK ⟨g1 40 (by decide), g1 41 (by decide), g1 72 (by decide), g1 73 (by decide)⟩ ⟨g2 18 (by decide), g2 19 (by decide), g2 20 (by decide), g2 36 (by decide), g2 37 (by decide), g2 39 (by decide), g2 40 (by decide)⟩,
    ⟨e1.keep hR (g1 5 (by decide)), e2.keep hR (g1 21 (by decide)), e3.keep hR (g1 25 (by decide))⟩, f1, f2⟩
