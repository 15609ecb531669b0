/-! ===== the reference's calls, from what lasts to what lasts ===== -/
def RBd (c c' : Rct) (s s' : Rst) : Prop := c'.1 + s'.1.length ≤ c.1 + s.1.length + 23 ∧ c'.2.1 + s'.1.length ≤ c.2.1 + s.1.length + 20 ∧ c'.2.2 ≤ c.2.2 + 1
def RV (m : Nat) (c : Rct) (s : Rst) (val : Int) (s' : Rst) (σ σ' : St) (v : Int32) : Prop := rfE m σ σ' ∧ v = iz val ∧ ∃ c' : Rct, RI σ' m c' s' ∧ RBd c c' s s'
def RO (m : Nat) (c : Rct) (s : Rst) (k : Nat) (val : Int) (s' : Rst) (σ σ' : St) (v : Int32) : Prop := rfE m σ σ' ∧ Fi σ' m 0 (nI k) ∧ (k = 0 → v = iz val) ∧ ∃ c' : Rct, RI σ' m c' s' ∧ RBd c c' s s'
theorem RBd.rf {c : Rct} {s s' : Rst} (h : s'.1 = s.1) : RBd c c s s' := by
  unfold RBd
  rw [h]
  omega
theorem RI.k0 {σ σ' : St} {m : Nat} {c : Rct} {s : Rst} (h : RI σ m c s) (hR : rfM m [0] [] nV σ σ') : RI σ' m c s := h.keep hR ⟨by decide, by decide⟩ (fun _ _ _ => Or.inl (fun z => z))
theorem rf_set0 {m : Nat} {β : Type} {σ : St} {k : St → Option (St × β)} {P : St → β → Prop} (hm : MS σ m) (hK : ∀ σ', rfM m [0] [] nV σ σ' → MS σ' m → Fi σ' m 0 (nI 0) → Hx (k σ') P) : Hx (Option.bind (pI σ 16 0 m (nI 0)) k) P := by
  rw [rf_pI hm]
  have w : rfM m [0] [] nV σ (wI σ (fid 16 0) m (nI 0)) := rfM.wI (by simp)
  exact hx_bs (hK _ w (w.ms hm) fi_wI)
theorem nI_prz (n : Nat) : nI n - nI 1 = iz ((n : Int) - 1) := by
  rw [sm_iz, sm_iz, iz_sub]
  rfl
/-- a test of a place -/
theorem rf_tin {m code : Nat} {z hi : Int} {σ : St} {k : St → Int32 → Option (St × Int32)} {P : St → Int32 → Prop} (hz : -2147483648 ≤ z ∧ z < 2147483648) (hhi : -2147483648 ≤ hi ∧ hi < 2147483648) (hm : MS σ m) (h0 : Fi σ m 0 (nI 0)) (hc : 0 < code ∧ code < 2147483648) (h1 : 0 ≤ z ∧ z ≤ hi → Hx (k σ (nI 0)) P) (h2 : ¬ (0 ≤ z ∧ z ≤ hi) → ∀ σ', rfM m [0] [] nV σ σ' → Fi σ' m 0 (nI code) → Hx (k σ' (nI 1)) P) :
    Hx (cb (fX12_in σ (iz z) (nI 0) (iz hi)) fun σ3 v4 => Option.bind (ckK σ3 17 m) fun _ => cb (fX12_fails σ3 m v4 (nI code)) k) P := by
  rw [show nI 0 = iz 0 from rfl, rf_in hz.1 hz.2 (by omega) (by omega) hhi.1 hhi.2]
  refine hx_cs ?_
  rw [rf_ck hm]
  refine hx_bs ?_
  by_cases c : 0 ≤ z ∧ z ≤ hi
  · rw [if_pos c, rf_fails1 hm h0]
    exact hx_cs (h1 c)
  · rw [if_neg c]
    refine Hx.bd (rf_fails0 hm h0 hc.1 hc.2) (fun σ1 v g => ?_)
    obtain ⟨rfl, g1, g2⟩ := g
    exact h2 c σ1 g1 g2
theorem ri_errorPosition {σ : St} {m : Nat} {c : Rct} {s : Rst} (h : RI σ m c s) : Hx (fX12_errorPosition σ m) (RV m c s s.2.1 s σ) :=
  (rf_errorPosition h.1.1 h.1.2.2.1).mo (fun σ' v g => ⟨g.2.1.1, g.1, c, h.k0 g.2.1, RBd.rf rfl⟩)
theorem ri_failed {σ : St} {m : Nat} {c : Rct} {s : Rst} (h : RI σ m c s) : Hx (fX12_failed σ m) (RV m c s s.2.2.1.2.2.1 s σ) :=
  (rf_failed h.1.1 h.1.2.2.2.2.2.1).mo (fun σ' v g => ⟨g.2.1.1, g.1, c, h.k0 g.2.1, RBd.rf rfl⟩)
theorem ri_ring {σ : St} {m : Nat} {c : Rct} {s : Rst} (h : RI σ m c s) : Hx (fX12_ring σ m) (RV m c s s.2.2.1.2.2.2.length s σ) :=
  (rf_ring h.1.1 h.1.2.2.2.2.2.2.1).mo (fun σ' v g => ⟨g.2.1.1, by rw [g.1, sm_iz], c, h.k0 g.2.1, RBd.rf rfl⟩)
theorem ri_names {σ : St} {m : Nat} {c : Rct} {s : Rst} (h : RI σ m c s) : Hx (fX12_names σ m) (RV m c s s.2.2.2.2.2.2.2.1.1.length s σ) :=
  (rf_names h.1.1 h.2.2.1.cur.B.1.1).mo (fun σ' v g => ⟨g.2.1.1, by rw [g.1, sm_iz], c, h.k0 g.2.1, RBd.rf rfl⟩)
theorem ri_functions {σ : St} {m : Nat} {c : Rct} {s : Rst} (h : RI σ m c s) : Hx (fX12_functions σ m) (RV m c s s.2.2.2.2.2.2.2.1.2.1.length s σ) :=
  (rf_functions h.1.1 h.2.2.1.cur.B.1.2.2.1).mo (fun σ' v g => ⟨g.2.1.1, by rw [g.1, sm_iz], c, h.k0 g.2.1, RBd.rf rfl⟩)
theorem ri_steps {σ : St} {m : Nat} {c : Rct} {s : Rst} (h : RI σ m c s) : Hx (fX12_steps σ m) (RV m c s s.2.2.2.2.2.2.1.length s σ) :=
  (rf_steps h.1.1 h.2.1.2.2.2.1).mo (fun σ' v g => ⟨g.2.1.1, by rw [g.1, sm_iz], c, h.k0 g.2.1, RBd.rf rfl⟩)
theorem ri_errors {σ : St} {m : Nat} {c : Rct} {s : Rst} (h : RI σ m c s) : Hx (fX12_errors σ m) (RV m c s 0 s σ) := by
  rw [n_fX12_errors]
  exact rf_set0 h.1.1 (fun σ1 r1 m1 f0 => Hx.ret ⟨r1.1, rfl, c, h.k0 r1, RBd.rf rfl⟩)
theorem ri_clearTape {σ : St} {m : Nat} {c : Rct} {s : Rst} (h : RI σ m c s) : Hx (fX12_clearTape σ m) (RV m c s s.1.length ([], s.2) σ) := by
  obtain ⟨⟨a1, a2, a3, a4⟩, b, d, ⟨e1, e2, e3⟩, f⟩ := id h
  refine (rf_clearTape a1 a2.1.1).mo (fun σ' v g => ?_)
  obtain ⟨rfl, g1, g2, g3⟩ := g
  have hK : Kp m c.1 c.2.1 c.2.2 σ σ' := Kp.of g1 (by decide) (fun _ _ _ z => z)
  have hC := h.core.keep g1 hK ⟨by decide, by decide⟩ (fun _ _ _ z => z)
  refine ⟨g1.1, sm_iz _, c, hC.done (RTx.nil g3) (a3.keep g1 (by decide)) (e1.keep g1 (by decide)) (e2.keep g1 (by decide)) (e3.keep g1 (by decide)) f, ?_⟩
  unfold RBd
  show c.1 + 0 ≤ _ ∧ c.2.1 + 0 ≤ _ ∧ _
  omega
theorem ri_refused {σ : St} {m : Nat} {c : Rct} {s : Rst} {z : Int} (hz : -2147483648 ≤ z ∧ z < 2147483648) (h : RI σ m c s) : Hx (fX12_refused σ m (iz z)) (RO m c s (if 0 ≤ z ∧ z ≤ 1 then 0 else 1) (if z = 0 then s.2.2.1.1 else s.2.2.1.2.1) s σ) := by
  rw [n_fX12_refused]
  refine rf_set0 h.1.1 (fun σ1 r1 m1 f0 => ?_)
  have h1 := h.k0 r1
  obtain ⟨q1, q2, _⟩ := h1.1.2.2.2
  rw [show nI 1 = iz 1 from rfl]
  refine rf_tin (code := 1) hz (by omega) m1 f0 (by omega) (fun c1 => ?_) (fun c1 σ2 r2 f2 => ?_)
  · refine Hx.ce rfl (fun _ => ?_) (fun q => absurd rfl q)
    rw [show nI 0 = iz 0 from rfl]
    refine Hx.ce (iz_eq hz.1 hz.2 (by omega) (by omega)) (fun c2 => ?_) (fun c2 => ?_)
    · rw [fi_g m1 q1]
      refine hx_bs (Hx.ret ⟨r1.1, ?_, fun _ => ?_, c, h1, RBd.rf rfl⟩)
      · rw [if_pos c1]; exact f0
      · rw [if_pos c2]
    · rw [fi_g m1 q2]
      refine hx_bs (Hx.ret ⟨r1.1, ?_, fun _ => ?_, c, h1, RBd.rf rfl⟩)
      · rw [if_pos c1]; exact f0
      · rw [if_neg c2]
  · refine Hx.ce (sm_eq (show 1 < 2147483648 by omega) (by omega)) (fun z => absurd z (by omega)) (fun _ => ?_)
    refine Hx.ret ⟨r1.1.tr r2.1, ?_, fun q => ?_, c, h1.k0 r2, RBd.rf rfl⟩
    · rw [if_neg c1]; exact f2
    · rw [if_neg c1] at q; cases q
/-- what stands at a place, 0 if there is none -/
def atI {α : Type} (l : List α) (z : Int) (f : α → Int) : Int := ((l[z.toNat]?).map f).getD 0
theorem atI_of {α : Type} {l : List α} {i : Nat} {f : α → Int} {x : α} (h : l[i]? = some x) : atI l (i : Int) f = f x := by
  unfold atI
  rw [Int.toNat_natCast, h]
  rfl
theorem ri_ringAt {σ : St} {m : Nat} {c : Rct} {s : Rst} {z : Int} (hz : -2147483648 ≤ z ∧ z < 2147483648) (h : RI σ m c s) : Hx (fX12_ringAt σ m (iz z)) (RO m c s (if 0 ≤ z ∧ z < s.2.2.1.2.2.2.length then 0 else 1) (atI s.2.2.1.2.2.2 z id) s σ) := by
  rw [n_fX12_ringAt]
  refine rf_set0 h.1.1 (fun σ1 r1 m1 f0 => ?_)
  have h1 := h.k0 r1
  obtain ⟨_, _, _, q4, q5, q6⟩ := h1.1.2.2.2
  rw [fi_g m1 q4]
  refine hx_bs ?_
  rw [nI_prz]
  refine rf_tin (code := 1) hz (by omega) m1 f0 (by omega) (fun c1 => ?_) (fun c1 σ2 r2 f2 => ?_)
  · refine Hx.ce rfl (fun _ => ?_) (fun q => absurd rfl q)
    obtain ⟨i, rfl⟩ := Int.eq_ofNat_of_zero_le c1.1
    have hi : i < s.2.2.1.2.2.2.length := by omega
    rw [rf_ringWord m1]
    refine hx_bs ?_
    rw [← sm_iz, ld_ringWord m1 (by omega), q6 i _ (List.getElem?_eq_getElem hi)]
    refine hx_bs (Hx.ret ⟨r1.1, ?_, fun _ => ?_, c, h1, RBd.rf rfl⟩)
    · rw [if_pos (by omega)]; exact f0
    · rw [atI_of (List.getElem?_eq_getElem hi)]; rfl
  · refine Hx.ce (sm_eq (show 1 < 2147483648 by omega) (by omega)) (fun z => absurd z (by omega)) (fun _ => ?_)
    have c2 : ¬ (0 ≤ z ∧ z < (s.2.2.1.2.2.2.length : Int)) := by omega
    refine Hx.ret ⟨r1.1.tr r2.1, ?_, fun q => ?_, c, h1.k0 r2, RBd.rf rfl⟩
    · rw [if_neg c2]; exact f2
    · rw [if_neg c2] at q; cases q
theorem ri_sign {σ : St} {m : Nat} {c : Rct} {s : Rst} (h : RI σ m c s) : Hx (fX12_sign σ m) (RV m c s s.2.2.2.1.1 s σ) := by
  rw [n_fX12_sign]
  refine rf_set0 h.1.1 (fun σ1 r1 m1 f0 => ?_)
  have h1 := h.k0 r1
  obtain ⟨vi, q1, q2⟩ := h1.2.1.1
  rw [rf_sign m1]
  refine hx_bs ?_
  rw [fi_g m1 q1]
  refine hx_bs ?_
  rw [q2.2.sg m1 (by have := q2.1; omega)]
  exact hx_bs (Hx.ret ⟨r1.1, rfl, c, h1, RBd.rf rfl⟩)
/-- a value becomes the answer -/
theorem ri_becomes {σ : St} {m i : Nat} {c : Rct} {s : Rst} {q : Qv} (h : RI σ m c s) (hv : c.1 < 12600) (hV : Vl σ m i q) (hi : i < 600 ∨ i < c.1) : Hx (fX12_becomes σ m (nI i)) (fun σ' v => v = iz q.1 ∧ rfM m [5, 57] [] (fun j => j = c.1) σ σ' ∧ ∃ c' : Rct, RI σ' m c' (s.1, s.2.1, s.2.2.1, q, s.2.2.2.2) ∧ (c.1 ≤ c'.1 ∧ c'.1 ≤ c.1 + 1) ∧ c'.2 = c.2) := by
  obtain ⟨⟨a1, a2, a3, a4⟩, ⟨b1, b2, b3, b4⟩, d, ⟨e1, e2, e3⟩, f1, f2⟩ := id h
  refine (rf_becomes a1 e1 ⟨f1, hv⟩ hV hi).mo (fun σ' v g => ?_)
  obtain ⟨rfl, i', vm', g1, g2, g3, g4, g5, g6⟩ := g
  have hK : Kp m c.1 c.2.1 c.2.2 σ σ' := Kp.of g6 (by decide) (fun i h1 h2 z => by omega)
  have bnd : c.1 ≤ vm' ∧ vm' ≤ 12600 := by omega
  refine ⟨rfl, g6, (vm', c.2), ⟨⟨g6.ms a1, a2.keep g6 (by decide) (by decide), a3.keep g6 (by decide), a4.keep g6 (by decide) (by decide)⟩, ⟨⟨i', g1, ⟨⟨g4.1, g4.2, bnd.2⟩, g5⟩⟩, (b2.keep g6 hK (by decide)).up bnd, b3.keep g6 (by decide) (by decide), b4.keep g6 (by decide) (by decide) (fun i h1 h2 z => by omega)⟩, (d.keep g6 hK (by decide) (by decide)).up bnd (Nat.le_refl _) ⟨Nat.le_refl _, f2.2.2⟩, ⟨g2, e2.keep g6 (by decide), e3.keep g6 (by decide)⟩, by show 600 ≤ vm'; omega, bnd.2, f2.2⟩, g3, rfl⟩
theorem RBd.b1 {c c' : Rct} {s s' : Rst} (h1 : s'.1 = s.1) (h2 : c'.1 ≤ c.1 + 1) (h3 : c'.2 = c.2) : RBd c c' s s' := by
  unfold RBd
  rw [h1, h3]
  omega
theorem rf_noStep {m N : Nat} {z : Int} {σ : St} (hz : -2147483648 ≤ z ∧ z < 2147483648) (hN : N ≤ 200) (hm : MS σ m) (h56 : Fi σ m 56 (nI N)) (h0 : Fi σ m 0 (nI 0)) : Hx (fX12_noStep σ m (iz z)) (Tst m (0 ≤ z ∧ z < N) σ) := by
  rw [n_fX12_noStep, fi_g hm h56]
  refine hx_bs ?_
  rw [nI_prz]
  refine rf_tin (code := 1) hz (by omega) hm h0 (by omega) (fun c1 => ?_) (fun c1 σ2 r2 f2 => ?_)
  · rw [ckZ0]
    exact hx_bs (Hx.ret (Or.inl ⟨by omega, rfl, rfl⟩))
  · rw [ckZ1]
    exact hx_bs (Hx.ret (Or.inr ⟨by omega, rfl, r2, f2⟩))
theorem ri_stepAt {σ : St} {m : Nat} {c : Rct} {s : Rst} {z : Int} (hz : -2147483648 ≤ z ∧ z < 2147483648) (h : RI σ m c s) : Hx (fX12_stepAt σ m (iz z)) (RO m c s (if 0 ≤ z ∧ z < s.2.2.2.2.2.2.1.length then 0 else 1) (atI s.2.2.2.2.2.2.1 z (fun p => (p.1 : Int))) s σ) := by
  rw [n_fX12_stepAt]
  refine rf_set0 h.1.1 (fun σ1 r1 m1 f0 => ?_)
  have h1 := h.k0 r1
  obtain ⟨q1, q2, q3⟩ := h1.2.1.2.2.2
  rw [rf_ck m1]
  refine hx_bs ?_
  refine Hx.bd (rf_noStep hz q2 m1 q1 f0) (fun σ2 v g => ?_)
  rcases g with ⟨c1, rfl, rfl⟩ | ⟨c1, rfl, r2, f2⟩
  · refine Hx.ce rfl (fun _ => ?_) (fun q => absurd rfl q)
    obtain ⟨i, rfl⟩ := Int.eq_ofNat_of_zero_le c1.1
    have hi : i < s.2.2.2.2.2.2.1.length := by omega
    rw [rf_shownKind m1]
    refine hx_bs ?_
    rw [← sm_iz, ld_shownKind m1 (by omega), (q3 i _ (List.getElem?_eq_getElem hi)).1]
    refine hx_bs (Hx.ret ⟨r1.1, ?_, fun _ => ?_, c, h1, RBd.rf rfl⟩)
    · rw [if_pos (by omega)]; exact f0
    · rw [atI_of (List.getElem?_eq_getElem hi), sm_iz]
  · refine Hx.ce (sm_eq (show 1 < 2147483648 by omega) (by omega)) (fun z => absurd z (by omega)) (fun _ => ?_)
    refine Hx.ret ⟨r1.1.tr r2.1, ?_, fun q => ?_, c, h1.k0 r2, RBd.rf rfl⟩
    · rw [if_neg c1]; exact f2
    · rw [if_neg c1] at q; cases q
/-- a value of a row of values, nothing's is nothing -/
def atQ (l : List Qv) (z : Int) : Qv := (l[z.toNat]?).getD (0, 0, 1)
theorem atQ_of {l : List Qv} {i : Nat} {x : Qv} (h : l[i]? = some x) : atQ l (i : Int) = x := by
  unfold atQ
  rw [Int.toNat_natCast, h]
  rfl
def atS (l : Sts) (z : Int) : Qv := ((l[z.toNat]?).map (·.2)).getD (0, 0, 1)
theorem atS_of {l : Sts} {i : Nat} {x : Nat × Qv} (h : l[i]? = some x) : atS l (i : Int) = x.2 := by
  unfold atS
  rw [Int.toNat_natCast, h]
  rfl
theorem ri_takeStep {σ : St} {m : Nat} {c : Rct} {s : Rst} {z : Int} (hz : -2147483648 ≤ z ∧ z < 2147483648) (hv : c.1 < 12600) (h : RI σ m c s) : Hx (fX12_takeStep σ m (iz z)) (RO m c s (if 0 ≤ z ∧ z < s.2.2.2.2.2.2.1.length then 0 else 1) (atS s.2.2.2.2.2.2.1 z).1 (if 0 ≤ z ∧ z < s.2.2.2.2.2.2.1.length then (s.1, s.2.1, s.2.2.1, atS s.2.2.2.2.2.2.1 z, s.2.2.2.2) else s) σ) := by
  rw [n_fX12_takeStep]
  refine rf_set0 h.1.1 (fun σ1 r1 m1 f0 => ?_)
  have h1 := h.k0 r1
  obtain ⟨q1, q2, q3⟩ := h1.2.1.2.2.2
  rw [rf_ck m1]
  refine hx_bs ?_
  refine Hx.bd (rf_noStep hz q2 m1 q1 f0) (fun σ2 v g => ?_)
  rcases g with ⟨c1, rfl, rfl⟩ | ⟨c1, rfl, r2, f2⟩
  · refine Hx.ce rfl (fun _ => ?_) (fun q => absurd rfl q)
    obtain ⟨i, rfl⟩ := Int.eq_ofNat_of_zero_le c1.1
    have hi : i < s.2.2.2.2.2.2.1.length := by omega
    rw [rf_ck m1]
    refine hx_bs ?_
    rw [← sm_iz, sm_add]
    refine Hx.bd (ri_becomes h1 hv (q3 i _ (List.getElem?_eq_getElem hi)).2 (Or.inl (by omega))) (fun σ3 v g => ?_)
    obtain ⟨rfl, g1, c', g2, g3, g4⟩ := g
    refine Hx.ret ⟨r1.1.tr g1.1, ?_, fun _ => ?_, c', ?_, ?_⟩
    · rw [if_pos (by omega)]; exact f0.keep g1 (by decide)
    · rw [atS_of (List.getElem?_eq_getElem hi)]
    · rw [if_pos (by omega), atS_of (List.getElem?_eq_getElem hi)]; exact g2
    · rw [if_pos (by omega)]; exact RBd.b1 rfl g3.2 g4
  · refine Hx.ce (sm_eq (show 1 < 2147483648 by omega) (by omega)) (fun z => absurd z (by omega)) (fun _ => ?_)
    refine Hx.ret ⟨r1.1.tr r2.1, ?_, fun q => ?_, c, ?_, ?_⟩
    · rw [if_neg c1]; exact f2
    · rw [if_neg c1] at q; cases q
    · rw [if_neg c1]; exact h1.k0 r2
    · rw [if_neg c1]; exact RBd.rf rfl
theorem ri_take {σ : St} {m : Nat} {c : Rct} {s : Rst} {z : Int} (hz : -2147483648 ≤ z ∧ z < 2147483648) (hv : c.1 < 12600) (h : RI σ m c s) : Hx (fX12_take σ m (iz z)) (RO m c s (if 0 ≤ z ∧ z ≤ 9 then 0 else 1) (atQ s.2.2.2.2.1 z).1 (if 0 ≤ z ∧ z ≤ 9 then (s.1, s.2.1, s.2.2.1, atQ s.2.2.2.2.1 z, s.2.2.2.2) else s) σ) := by
  rw [n_fX12_take]
  refine rf_set0 h.1.1 (fun σ1 r1 m1 f0 => ?_)
  have h1 := h.k0 r1
  obtain ⟨q1, q2⟩ := h1.2.1.2.1
  rw [rf_ck m1]
  refine hx_bs ?_
  refine Hx.bd (rf_noSlot hz m1 f0) (fun σ2 v g => ?_)
  rcases g with ⟨c1, rfl, rfl⟩ | ⟨c1, rfl, r2, f2⟩
  · refine Hx.ce rfl (fun _ => ?_) (fun q => absurd rfl q)
    obtain ⟨i, rfl⟩ := Int.eq_ofNat_of_zero_le c1.1
    have hi : i < s.2.2.2.2.1.length := by omega
    obtain ⟨vi, u1, u2⟩ := q2 i _ (List.getElem?_eq_getElem hi)
    rw [rf_slot m1]
    refine hx_bs ?_
    rw [← sm_iz, ld_slot m1 (by omega), u1]
    refine hx_bs ?_
    rw [rf_ck m1]
    refine hx_bs ?_
    refine Hx.bd (ri_becomes h1 hv u2.2 (Or.inr u2.1.2.1)) (fun σ3 v g => ?_)
    obtain ⟨rfl, g1, c', g2, g3, g4⟩ := g
    refine Hx.ret ⟨r1.1.tr g1.1, ?_, fun _ => ?_, c', ?_, ?_⟩
    · rw [if_pos c1]; exact f0.keep g1 (by decide)
    · rw [atQ_of (List.getElem?_eq_getElem hi)]
    · rw [if_pos c1, atQ_of (List.getElem?_eq_getElem hi)]; exact g2
    · rw [if_pos c1]; exact RBd.b1 rfl g3.2 g4
  · refine Hx.ce (sm_eq (show 1 < 2147483648 by omega) (by omega)) (fun z => absurd z (by omega)) (fun _ => ?_)
    refine Hx.ret ⟨r1.1.tr r2.1, ?_, fun q => ?_, c, ?_, ?_⟩
    · rw [if_neg c1]; exact f2
    · rw [if_neg c1] at q; cases q
    · rw [if_neg c1]; exact h1.k0 r2
    · rw [if_neg c1]; exact RBd.rf rfl
theorem ri_keep {σ : St} {m : Nat} {c : Rct} {s : Rst} {z : Int} (hz : -2147483648 ≤ z ∧ z < 2147483648) (h : RI σ m c s) : Hx (fX12_keep σ m (iz z)) (RO m c s (if 0 ≤ z ∧ z ≤ 9 then 0 else 1) (atQ s.2.2.2.2.1 z).1 (if 0 ≤ z ∧ z ≤ 9 then (s.1, s.2.1, s.2.2.1, s.2.2.2.1, s.2.2.2.2.1.set z.toNat s.2.2.2.1, s.2.2.2.2.2) else s) σ) := by
  rw [n_fX12_keep]
  refine rf_set0 h.1.1 (fun σ1 r1 m1 f0 => ?_)
  have h1 := h.k0 r1
  obtain ⟨q1, q2⟩ := h1.2.1.2.1
  obtain ⟨ai, a1, a2⟩ := h1.2.1.1
  rw [rf_ck m1]
  refine hx_bs ?_
  refine Hx.bd (rf_noSlot hz m1 f0) (fun σ2 v g => ?_)
  rcases g with ⟨c1, rfl, rfl⟩ | ⟨c1, rfl, r2, f2⟩
  · refine Hx.ce rfl (fun _ => ?_) (fun q => absurd rfl q)
    obtain ⟨i, rfl⟩ := Int.eq_ofNat_of_zero_le c1.1
    have hi : i < s.2.2.2.2.1.length := by omega
    obtain ⟨vi, u1, u2⟩ := q2 i _ (List.getElem?_eq_getElem hi)
    rw [rf_sign m1]
    refine hx_bs ?_
    rw [rf_slot m1]
    refine hx_bs ?_
    rw [← sm_iz, ld_slot m1 (by omega), u1]
    refine hx_bs ?_
    rw [u2.2.sg m1 (by have := u2.1; omega)]
    refine hx_bs ?_
    refine hx_bs ?_
    rw [fi_g m1 a1]
    refine hx_bs ?_
    rw [st_slot m1 (by omega)]
    refine hx_bs ?_
    have w : rfM m [] [41] nV σ2 (wA σ2 (m + 41) i (nI ai)) := rfM.wA (by simp) (by omega)
    have hK : Kp m c.1 c.2.1 c.2.2 σ2 (wA σ2 (m + 41) i (nI ai)) := Kp.of w (by decide) (fun _ _ _ z => z)
    refine Hx.ret ⟨r1.1.tr w.1, ?_, fun _ => ?_, c, ?_, ?_⟩
    · rw [if_pos c1]; exact f0.keep w (by decide)
    · rw [atQ_of (List.getElem?_eq_getElem hi)]
    · rw [if_pos c1, Int.toNat_natCast]
      obtain ⟨⟨b1, b2, b3, b4⟩, ⟨d1, d2, d3, d4⟩, d, ⟨e1, e2, e3⟩, f⟩ := h1
      refine ⟨⟨w.ms m1, b2.keep w (by decide) (by decide), b3.keep w (by decide), b4.keep w (by decide) (by decide)⟩, ⟨d1.keep w hK (by decide), ⟨by rw [List.length_set]; exact q1, fun j x hj => ?_⟩, d3.keep w (by decide) (by decide), d4.keep w (by decide) (by decide) (fun _ _ _ z => z)⟩, d.keep w hK (by decide) (by decide), ⟨e1.keep w (by decide), e2.keep w (by decide), e3.keep w (by decide)⟩, f⟩
      rw [List.getElem?_set] at hj
      by_cases cj : i = j
      · subst cj
        rw [if_pos rfl, if_pos hi] at hj
        cases hj
        exact ⟨ai, sA_wA_eq, a2.kp hK⟩
      · rw [if_neg cj] at hj
        obtain ⟨vj, v1, v2⟩ := q2 j x hj
        exact ⟨vj, by rw [sA_wA_j (fun z => cj z.symm)]; exact v1, v2.kp hK⟩
    · rw [if_pos c1]; exact RBd.rf rfl
  · refine Hx.ce (sm_eq (show 1 < 2147483648 by omega) (by omega)) (fun z => absurd z (by omega)) (fun _ => ?_)
    refine Hx.ret ⟨r1.1.tr r2.1, ?_, fun q => ?_, c, ?_, ?_⟩
    · rw [if_neg c1]; exact f2
    · rw [if_neg c1] at q; cases q
    · rw [if_neg c1]; exact h1.k0 r2
    · rw [if_neg c1]; exact RBd.rf rfl
