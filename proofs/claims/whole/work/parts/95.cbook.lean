/-! ===== the class' book: things told come in and go out ===== -/
theorem cx_key {σ : St} {t w : Nat} (hk : sK σ t = 15) (hw : sI σ (fid 14 0) t = nI w) (h0 : 0 < w) (h1 : w < 387420489) : fX10_key σ t = some (σ, nI (wkey w)) := by
  have key : ∀ (k n i w : Nat), k < n → i + k = 6 → 0 < w → w < 387420489 → fX10_key_7 n σ (nI w) (nI i) = some (σ, nI (wky k w)) := by
    intro k
    induction k with
    | zero =>
      intro n i w hn hi h0 h1
      obtain ⟨n, rfl⟩ : ∃ n', n = n' + 1 := ⟨n - 1, by omega⟩
      have : i = 6 := by omega
      subst this
      rw [n_fX10_key_7, if_pos (by rw [sm_le (by omega) (by omega)]; omega)]
      rfl
    | succ k ih =>
      intro n i w hn hi h0 h1
      obtain ⟨n, rfl⟩ : ∃ n', n = n' + 1 := ⟨n - 1, by omega⟩
      rw [n_fX10_key_7, if_neg (by rw [sm_le (by omega) (by omega)]; omega), if_neg (by rw [sm_le (by omega) (by omega)]; omega)]
      unfold wky
      by_cases h3 : 14348907 ≤ w
      · rw [if_pos h3, if_pos (by rw [sm_le (by omega) (by omega)]; omega)]
      · rw [if_neg h3, if_neg (by rw [sm_le (by omega) (by omega)]; omega)]
        show nm (nI w * nI 27) (fun v4 => nm (nI i + nI 1) fun v5 => fX10_key_7 n σ v4 v5) = _
        rw [sm_mul, sm_add]
        exact ih n (i + 1) (w * 27) (by omega) (by omega) (by omega) (by omega)
  rw [n_fX10_key, (sm_gI hk).trans (congrArg some hw)]
  show fX10_key_7 FU σ (nI w) (nI 0) = _
  exact key 6 FU 0 w (by show 6 < 4294967296; omega) (by omega) h0 h1
/-- a row of things told, with their words -/
def Tl (σ : St) (A : Nat) (ws : List Nat) : Prop := sK σ A = 108 ∧ sN σ A = ws.length ∧ ws.length ≤ 20 ∧ ∀ i w, ws[i]? = some w → sK σ (sQ σ A i) = 15 ∧ sI σ (fid 14 0) (sQ σ A i) = nI w ∧ 0 < w ∧ w < 387420489
/-- where a word comes -/
def Plc (ws : List Nat) (w p : Nat) : Prop := p ≤ ws.length ∧ (∀ i u, i < p → ws[i]? = some u → wkey u < wkey w) ∧ ∀ u, ws[p]? = some u → wkey w ≤ wkey u
theorem Plc.ex (w : Nat) : ∀ ws : List Nat, ∃ p, Plc ws w p
  | [] => ⟨0, Nat.le_refl _, fun i u h => absurd h (Nat.not_lt_zero _), fun u h => by cases h⟩
  | u :: ws => by
    by_cases c : wkey u < wkey w
    · obtain ⟨p, h1, h2, h3⟩ := Plc.ex w ws
      refine ⟨p + 1, Nat.succ_le_succ h1, fun i v hi hv => ?_, fun v hv => h3 v (by simpa using hv)⟩
      cases i with
      | zero => simp only [List.getElem?_cons_zero, Option.some.injEq] at hv; rw [← hv]; exact c
      | succ i => exact h2 i v (by omega) (by simpa using hv)
    · refine ⟨0, Nat.zero_le _, fun i u h => absurd h (Nat.not_lt_zero _), fun v hv => ?_⟩
      simp only [List.getElem?_cons_zero, Option.some.injEq] at hv
      rw [← hv]
      omega
/-- what is put in at a place: new (u = 1), or over the old one -/
def plL {α : Type} (l : List α) (p u : Nat) (e : α) : List α := l.take p ++ e :: l.drop (p + (1 - u))
theorem plL_len {α : Type} {l : List α} {p u : Nat} {e : α} (hp : p ≤ l.length) (hu : u = 1 ∨ u = 0 ∧ p < l.length) : (plL l p u e).length = l.length + u := by
  unfold plL
  rw [List.length_append, List.length_take, List.length_cons, List.length_drop]
  omega
theorem plL_get {α : Type} {l : List α} {p u i : Nat} {e : α} (hp : p ≤ l.length) (hu : u = 1 ∨ u = 0 ∧ p < l.length) : (plL l p u e)[i]? = if i = p then some e else l[if u = 1 ∧ p < i then i - 1 else i]? := by
  unfold plL
  by_cases c : i < p
  · rw [List.getElem?_append_left (by rw [List.length_take]; omega), List.getElem?_take, if_pos c, if_neg (by omega), if_neg (by omega)]
  · rw [List.getElem?_append_right (by rw [List.length_take]; omega), List.length_take, Nat.min_eq_left hp]
    by_cases c2 : i = p
    · subst c2
      rw [if_pos rfl, Nat.sub_self]
      rfl
    · obtain ⟨j, hj⟩ : ∃ j, i - p = j + 1 := ⟨i - p - 1, by omega⟩
      rw [if_neg c2, hj, List.getElem?_cons_succ, List.getElem?_drop]
      congr 1
      rcases hu with rfl | ⟨rfl, _⟩
      · rw [if_pos ⟨rfl, by omega⟩]; omega
      · rw [if_neg (by omega)]; omega
/-- a row of references made -/
theorem nwQ {σ : St} {ti m : Nat} (hm : m ≤ 60000000) : nwA ti (nI m) σ = some (nw (100 + ti) m m σ) := by
  have h1 : ¬ nI m < 0 := by
    have e : (nI m < nI 0) = (m < 0) := sm_lt (by omega) (by omega)
    intro h
    have h2 : nI m < nI 0 := h
    rw [e] at h2
    omega
  unfold nwA
  rw [sm_clamp (by omega), if_pos ⟨h1, hm⟩]
/-- a row that is made, as it is filled -/
def Mk (x κ k c : Nat) (σ0 σ : St) (a L m : Nat) (g : Nat → Nat) : Prop := cW x s0 k c σ0 σ ∧ sz σ0 ≤ a ∧ sK σ a = κ ∧ sN σ a = L ∧ ∀ i, i < m → sQ σ a i = g i
theorem Mk.new {x κ k c L : Nat} {σ0 σ : St} {g : Nat → Nat} (h : cW x s0 k c σ0 σ) (hκ : 100 < κ) : Mk x κ (k + L) (c + 1) σ0 (nw κ L L σ) (sz σ) L 0 g := by
  refine ⟨h.tr (cW.nw h.hp (by omega)) (fun r _ hr => hr), h.2.1.1, ?_, ?_, fun i hi => absurd hi (Nat.not_lt_zero _)⟩
  · show (if sz σ = sz σ then κ else _) = κ
    rw [if_pos rfl]
  · show (if sz σ = sz σ then L else _) = L
    rw [if_pos rfl]
theorem Mk.put {x ti ci k c a L m v : Nat} {σ0 σ : St} {g : Nat → Nat} (h : Mk x (100 + ti) k c σ0 σ a L m g) (h0 : ti ≠ 0) (hm : m < L) (hL : L < 2147483648) (hv : v = 0 ∨ sK σ v = ci + 1) (hg : v = g m) : stQ σ ti ci a (nI m) v = some (wQ σ a m v) ∧ Mk x (100 + ti) k c σ0 (wQ σ a m v) a L (m + 1) g := by
  obtain ⟨h1, h2, h3, h4, h5⟩ := h
  refine ⟨stQ_ok h3 (by omega) (by omega) hv, h1.tr0 (cWq h1.hp (by omega) (by omega)) (fun r hr hs => by have : r = a := hs; omega), h2, h3, h4, fun i hi => ?_⟩
  by_cases e : i = m
  · subst e
    rw [sQ_wQ_eq]
    exact hg
  · rw [sQ_wQ_j e]
    exact h5 i (by omega)
theorem Tl.s0 {x k c A : Nat} {σ0 σ : St} {ws : List Nat} (h : Tl σ0 A ws) (hF : cW x s0 k c σ0 σ) : Tl σ A ws ∧ ∀ i, sQ σ A i = sQ σ0 A i := by
  obtain ⟨h1, h2, h3, h4⟩ := h
  have hz : A < sz σ0 := hF.1.1.1.lt (by omega)
  have hs := hF.sam (a := A) (by omega) (Or.inl (by omega)) (fun q => q)
  refine ⟨⟨hF.k h1 (by omega), (hF.2.1.2 A hz).2.1.trans h2, h3, fun i w hi => ?_⟩, hs.2.2.2.2⟩
  obtain ⟨g1, g2, g3⟩ := h4 i w hi
  have hs2 := hF.sam (a := sQ σ0 A i) (by omega) (Or.inl (by omega)) (fun q => q)
  rw [hs.2.2.2.2]
  exact ⟨hF.k g1 (by omega), by rw [hs2.1]; exact g2, g3⟩
/-- what placed makes of the references -/
def plG (g : Nat → Nat) (p u t i : Nat) : Nat := if i = p then t else g (if u = 1 ∧ p < i then i - 1 else i)
theorem cx_placed_73 {x k c A p u t : Nat} {σ0 : St} {ws : List Nat} (hA : Tl σ0 A ws) (hp : p ≤ ws.length) (hu : u = 1 ∨ u = 0 ∧ p < ws.length) (ht : sK σ0 t = 15) {a : Nat} :
    ∀ (n m : Nat) (σ : St), ws.length + u - m < n → m ≤ ws.length + u → Mk x 108 k c σ0 σ a (ws.length + u) m (plG (sQ σ0 A) p u t) →
    Hx (fX0_placed_73 n σ A t (nI p) (nI u) a (nI m)) (fun σ' v => v = a ∧ Mk x 108 k c σ0 σ' a (ws.length + u) (ws.length + u) (plG (sQ σ0 A) p u t)) := by
  have hl := hA.2.2.1
  intro n
  induction n with
  | zero => intro m σ h; omega
  | succ n ih =>
    intro m σ hn hm hM
    obtain ⟨hA1, hAq⟩ := hA.s0 hM.1
    have ha : aln σ a = some (nI (ws.length + u)) := (sm_aln hM.2.2.1 ⟨by omega, by omega⟩).trans (by rw [hM.2.2.2.1])
    have hAl : aln σ A = some (nI ws.length) := (sm_aln hA1.1 ⟨by omega, by omega⟩).trans (by rw [hA1.2.1])
    rw [n_fX0_placed_73, ha]
    refine hx_bs (Hx.ce (sm_le (by omega) (by omega)) (fun c1 => ?_) (fun c1 => ?_))
    · have : m = ws.length + u := by omega
      subst this
      exact Hx.ret ⟨rfl, hM⟩
    · have hput : ∀ v, (v = 0 ∨ sK σ v = 14 + 1) → v = plG (sQ σ0 A) p u t m → Hx (fX0_placed_127 (fX0_placed_73 n) σ A t (nI p) (nI u) a (nI m) a (nI m) v) (fun σ' v => v = a ∧ Mk x 108 k c σ0 σ' a (ws.length + u) (ws.length + u) (plG (sQ σ0 A) p u t)) := by
        intro v h1 h2
        obtain ⟨q1, q2⟩ := Mk.put (ti := 8) hM (by omega) (by omega) (by omega) h1 h2
        rw [n_fX0_placed_127, q1]
        refine hx_bs (hx_nm ?_)
        rw [sm_add]
        exact ih (m + 1) _ (by omega) (by omega) q2
      have h100 : ∀ j, j = (if u = 1 ∧ p < m then m - 1 else m) → Hx (fX0_placed_100 (fX0_placed_73 n) σ A t (nI p) (nI u) a (nI m) (nI j)) (fun σ' v => v = a ∧ Mk x 108 k c σ0 σ' a (ws.length + u) (ws.length + u) (plG (sQ σ0 A) p u t)) := by
        intro j hj
        rw [n_fX0_placed_100]
        refine Hx.ce (sm_eq (by omega) (by omega)) (fun c2 => ?_) (fun c2 => ?_)
        · rw [n_fX0_placed_119]
          refine hput t (Or.inr (hM.1.k ht (by omega))) ?_
          unfold plG
          rw [if_pos c2]
        · have hjl : j < ws.length := by
            rcases hu with rfl | ⟨rfl, h⟩
            · split at hj <;> omega
            · rw [if_neg (by omega)] at hj; omega
          rw [hAl]
          refine hx_bs ?_
          rw [if_pos (by rw [sm_lt (by omega) (by omega)]; exact hjl), ldQ_ok (ti := 8) hA1.1 (by rw [hA1.2.1]; exact hjl) (by omega)]
          refine hx_bs (hput _ (Or.inr ?_) ?_)
          · exact (hA1.2.2.2 j _ (List.getElem?_eq_getElem hjl)).1
          · rw [hAq]
            unfold plG
            rw [if_neg c2, ← hj]
      have h98 : (u = 0 ∨ m ≤ p) → Hx (fX0_placed_98 (fX0_placed_73 n) σ A t (nI p) (nI u) a (nI m)) (fun σ' v => v = a ∧ Mk x 108 k c σ0 σ' a (ws.length + u) (ws.length + u) (plG (sQ σ0 A) p u t)) := by
        intro h
        rw [n_fX0_placed_98]
        exact h100 m (by rw [if_neg (by omega)])
      refine Hx.ce (sm_eq (by omega) (by omega)) (fun c2 => h98 (Or.inl c2)) (fun c2 => ?_)
      refine Hx.ce (sm_le (by omega) (by omega)) (fun c3 => h98 (Or.inr c3)) (fun c3 => ?_)
      rw [sm_sub (by omega)]
      exact h100 (m - 1) (by rw [if_pos ⟨by omega, by omega⟩])
theorem cx_placed {x k c A p w t : Nat} {σ0 σ : St} {ws : List Nat} (hF : cW x s0 k c σ0 σ) (hA : Tl σ0 A ws) (hp : Plc ws w p) (ht : sK σ0 t = 15) (hw : sI σ0 (fid 14 0) t = nI w) (h0 : 0 < w) (h1 : w < 387420489) :
    Hx (fX0_placed σ A t) (fun σ' v => v = sz σ ∧ Mk x 108 (k + (ws.length + b01 (ws[p]? ≠ some w))) (c + 1) σ0 σ' v (ws.length + b01 (ws[p]? ≠ some w)) (ws.length + b01 (ws[p]? ≠ some w)) (plG (sQ σ0 A) p (b01 (ws[p]? ≠ some w)) t)) := by
  have hl := hA.2.2.1
  obtain ⟨hA1, hAq⟩ := hA.s0 hF
  have hAl : aln σ A = some (nI ws.length) := (sm_aln hA1.1 ⟨by omega, by omega⟩).trans (by rw [hA1.2.1])
  have hst := hF.sam (a := t) (by omega) (Or.inl (by omega)) (fun q => q)
  have htk := hF.k ht (by omega)
  have htw : sI σ (fid 14 0) t = nI w := by rw [hst.1]; exact hw
  obtain ⟨hp1, hp2, hp3⟩ := hp
  have h51 : ∀ u, (u = 1 ∨ u = 0 ∧ p < ws.length) → u = b01 (ws[p]? ≠ some w) → Hx (fX0_placed_51 σ A t (nI p) (nI u)) (fun σ' v => v = sz σ ∧ Mk x 108 (k + (ws.length + b01 (ws[p]? ≠ some w))) (c + 1) σ0 σ' v (ws.length + b01 (ws[p]? ≠ some w)) (ws.length + b01 (ws[p]? ≠ some w)) (plG (sQ σ0 A) p (b01 (ws[p]? ≠ some w)) t)) := by
    intro u hu e
    rw [← e]
    have h65 : ∀ L, L = ws.length + u → Hx (fX0_placed_65 σ A t (nI p) (nI u) (nI L)) (fun σ' v => v = sz σ ∧ Mk x 108 (k + (ws.length + u)) (c + 1) σ0 σ' v (ws.length + u) (ws.length + u) (plG (sQ σ0 A) p u t)) := by
      intro L hL
      rw [n_fX0_placed_65, nwQ (by omega), hL]
      refine hx_bs (hx_nm ?_)
      refine Hx.mo (cx_placed_73 hA hp1 hu ht FU 0 _ (by show ws.length + u - 0 < 4294967296; omega) (Nat.zero_le _) (Mk.new hF (by omega))) (fun σ' v h => ?_)
      obtain ⟨rfl, h⟩ := h
      exact ⟨rfl, h⟩
    rw [n_fX0_placed_51]
    refine Hx.ce (sm_eq (by omega) (by omega)) (fun c2 => ?_) (fun c2 => ?_)
    · rw [hAl]
      exact hx_bs (h65 _ (by omega))
    · rw [hAl]
      refine hx_bs ?_
      rw [sm_add]
      exact h65 _ (by omega)
  have h27 : Hx (fX0_placed_27 σ A t (nI p)) (fun σ' v => v = sz σ ∧ Mk x 108 (k + (ws.length + b01 (ws[p]? ≠ some w))) (c + 1) σ0 σ' v (ws.length + b01 (ws[p]? ≠ some w)) (ws.length + b01 (ws[p]? ≠ some w)) (plG (sQ σ0 A) p (b01 (ws[p]? ≠ some w)) t)) := by
    rw [n_fX0_placed_27, hAl]
    refine hx_bs (Hx.ce (sm_le (by omega) (by omega)) (fun c2 => ?_) (fun c2 => ?_))
    · rw [n_fX0_placed_46]
      refine h51 1 (Or.inl rfl) (b01_p ?_).symm
      rw [List.getElem?_eq_none c2]
      exact fun q => by cases q
    · have hpl : p < ws.length := by omega
      have hg := List.getElem?_eq_getElem hpl
      obtain ⟨g1, g2, g3, g4⟩ := hA1.2.2.2 p _ hg
      rw [ldQ_ok (ti := 8) hA1.1 (by rw [hA1.2.1]; exact hpl) (by omega)]
      refine hx_bs ?_
      rw [(sm_gI g1).trans (congrArg some g2)]
      refine hx_bs ?_
      rw [(sm_gI htk).trans (congrArg some htw)]
      refine hx_bs (Hx.ce (sm_eq (by omega) (by omega)) (fun c3 => ?_) (fun c3 => ?_))
      · refine h51 0 (Or.inr ⟨rfl, hpl⟩) (b01_n ?_).symm
        rw [hg, c3]
        exact fun q => q rfl
      · rw [n_fX0_placed_46]
        refine h51 1 (Or.inl rfl) (b01_p ?_).symm
        rw [hg]
        exact fun q => c3 (by cases q; rfl)
  have key : ∀ (n m : Nat), p - m < n → m ≤ p → Hx (fX0_placed_2 n σ A t (nI m)) (fun σ' v => v = sz σ ∧ Mk x 108 (k + (ws.length + b01 (ws[p]? ≠ some w))) (c + 1) σ0 σ' v (ws.length + b01 (ws[p]? ≠ some w)) (ws.length + b01 (ws[p]? ≠ some w)) (plG (sQ σ0 A) p (b01 (ws[p]? ≠ some w)) t)) := by
    intro n
    induction n with
    | zero => intro m h; omega
    | succ n ih =>
      intro m hn hm
      rw [n_fX0_placed_2, hAl]
      refine hx_bs (Hx.ce (sm_le (by omega) (by omega)) (fun c2 => ?_) (fun c2 => ?_))
      · have : m = p := by omega
        subst this
        exact h27
      · have hml : m < ws.length := by omega
        have hg := List.getElem?_eq_getElem hml
        obtain ⟨g1, g2, g3, g4⟩ := hA1.2.2.2 m _ hg
        have hb1 := wkey_b g4
        have hb2 := wkey_b h1
        rw [ldQ_ok (ti := 8) hA1.1 (by rw [hA1.2.1]; exact hml) (by omega)]
        refine hx_bs ?_
        rw [sm_ckK g1]
        refine hx_bs ?_
        rw [cx_key g1 g2 g3 g4]
        refine hx_cs ?_
        rw [sm_ckK htk]
        refine hx_bs ?_
        rw [cx_key htk htw h0 h1]
        refine hx_cs (Hx.ce (sm_le (by omega) (by omega)) (fun c3 => ?_) (fun c3 => ?_))
        · have : m = p := by
            by_cases e : m = p
            · exact e
            · exfalso
              have := hp2 m _ (by omega) hg
              omega
          subst this
          exact h27
        · refine hx_nm ?_
          rw [sm_add]
          have hmp : m < p := by
            by_cases e : m = p
            · subst e
              exact absurd (hp3 _ hg) c3
            · omega
          exact ih (m + 1) (by omega) hmp
  rw [n_fX0_placed]
  exact key FU 0 (by have : p ≤ 20 := by omega
                     show p - 0 < 4294967296; omega) (Nat.zero_le _)
