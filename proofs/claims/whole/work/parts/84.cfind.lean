/-! ===== the class' book: find, toldAt ===== -/
def fixI (ws : List Nat) (w : Int32) : Option Nat := ws.findIdx? fun x => nI x == w
theorem fixI_nat {ws : List Nat} {w : Nat} (h : ∀ x ∈ ws, x < 2147483648) (hw : w < 2147483648) : fixI ws (nI w) = fix ws w := by
  unfold fixI fix
  induction ws with
  | nil => rfl
  | cons a ws ih =>
    have ha := h a (by simp)
    have e : (nI a == nI w) = (a == w) := by
      by_cases c : a = w
      · subst c; simp
      · have c2 : ¬ nI a = nI w := by rw [sm_eq ha hw]; exact c
        rw [show (a == w) = false from beq_eq_false_iff_ne.mpr c, show (nI a == nI w) = false from beq_eq_false_iff_ne.mpr c2]
    rw [List.findIdx?_cons, List.findIdx?_cons, e, ih (fun x hx => h x (List.mem_cons_of_mem _ hx))]
theorem fixI_neg {ws : List Nat} {w : Int32} (h : ∀ x ∈ ws, x < 2147483648) (hw : w < nI 0) : fixI ws w = none := by
  unfold fixI
  rw [List.findIdx?_eq_none_iff]
  intro x hx
  have hx := h x hx
  have c : ¬ nI x = w := by
    intro e
    rw [← e, sm_lt hx (by omega)] at hw
    omega
  simpa using c
theorem ob_f {σ : St} {x b na fa : Nat} {ns : List NE} {fs : List FE} (h : KBk σ x b na fa ns fs) : gF σ 4 0 b = some na ∧ gF σ 4 1 b = some fa ∧ aln σ na = some (nI ns.length) ∧ aln σ fa = some (nI fs.length) ∧ ckK σ 5 b = some () := by
  obtain ⟨⟨h1, h2, h3⟩, ⟨g1, g2⟩, ⟨k1, k2⟩, n1, f1⟩ := h
  exact ⟨(sm_gF h2).trans (congrArg some g1), (sm_gF h2).trans (congrArg some g2), (sm_aln k1.2.1 ⟨by omega, by omega⟩).trans (by rw [k1.2.2]), (sm_aln k2.2.1 ⟨by omega, by omega⟩).trans (by rw [k2.2.2]), sm_ckK h2⟩
theorem KTold.k {σ : St} {x t w np : Nat} {l : List It} {vo : Option Qv} (h : KTold σ x t w np l vo) : gI σ 14 0 t = some (nI w) ∧ gI σ 14 1 t = some (nI np) ∧ gF σ 14 2 t = some (sF σ (fid 14 2) t) ∧ gF σ 14 3 t = some (sF σ (fid 14 3) t) ∧ ckK σ 15 t = some () ∧ t ≠ 0 := by
  obtain ⟨⟨h1, h2⟩, ⟨h3, _⟩, ⟨h4, _⟩, _⟩ := h
  exact ⟨(sm_gI h2).trans (congrArg some h3), (sm_gI h2).trans (congrArg some h4), sm_gF h2, sm_gF h2, sm_ckK h2, by omega⟩
theorem KBk.ld {σ : St} {x b na fa i : Nat} {ns : List NE} {fs : List FE} (h : KBk σ x b na fa ns fs) (hi : i < ns.length) : ldQ σ 8 na (nI i) = some (sQ σ na i) := ldQ_ok h.2.2.1.1.2.1 (by rw [h.2.2.1.1.2.2]; exact hi) (by have := h.1.2.2.1; omega)
theorem KBk.ldf {σ : St} {x b na fa i : Nat} {ns : List NE} {fs : List FE} (h : KBk σ x b na fa ns fs) (hi : i < fs.length) : ldQ σ 8 fa (nI i) = some (sQ σ fa i) := ldQ_ok h.2.2.1.2.2.1 (by rw [h.2.2.1.2.2.2]; exact hi) (by have := h.1.2.2.2; omega)
theorem cb_find_loop {σ : St} {x b na fa f : Nat} {w : Int32} {ns : List NE} {fs : List FE} (hB : KBk σ x b na fa ns fs) (hf : f ≤ 1) (A : Nat) (ws : List Nat) (hA : A = if f = 0 then na else fa) (hws : ws = if f = 0 then ns.map (·.1) else fs.map (·.1)) :
    ∀ (n k : Nat), ws.length - k < n → k ≤ ws.length → (∀ j, j < k → ws[j]?.map (fun x => nI x == w) ≠ some true) → fX0_find_19 n σ b w (nI f) A (nI k) = some (σ, iz (thn (fixI ws w) (if f = 0 then 0 else ns.length))) := by
  obtain ⟨f1, f2, a1, a2, c5⟩ := ob_f hB
  have hln := hB.1.2.2
  have hlen : aln σ A = some (nI ws.length) := by
    rw [hA, hws]
    split
    · rw [List.length_map]; exact a1
    · rw [List.length_map]; exact a2
  have hwl : ws.length ≤ 20 := by
    rw [hws]
    split <;> rw [List.length_map] <;> omega
  have hel : ∀ k y, ws[k]? = some y → ∃ t, ldQ σ 8 A (nI k) = some t ∧ gI σ 14 0 t = some (nI y) := by
    intro k y hk
    rcases (show f = 0 ∨ f = 1 by omega) with rfl | rfl
    · rw [if_pos rfl] at hA hws
      rw [hws, List.getElem?_map] at hk
      cases he : ns[k]? with
      | none => rw [he] at hk; cases hk
      | some e =>
        rw [he] at hk
        cases hk
        have hi := (List.getElem?_eq_some_iff.mp he).1
        exact ⟨_, by rw [hA]; exact hB.ld hi, (hB.2.2.2.1 k e he).k.1⟩
    · rw [if_neg (by omega)] at hA hws
      rw [hws, List.getElem?_map] at hk
      cases he : fs[k]? with
      | none => rw [he] at hk; cases hk
      | some e =>
        rw [he] at hk
        cases hk
        have hi := (List.getElem?_eq_some_iff.mp he).1
        exact ⟨_, by rw [hA]; exact hB.ldf hi, (hB.2.2.2.2 k e he).1.k.1⟩
  intro n
  induction n with
  | zero => intro k h; omega
  | succ n ih =>
    intro k hn hk hno
    apply hx_eq
    rw [n_fX0_find_19, hlen]
    refine hx_bs ?_
    refine Hx.ce (sm_le (by omega) (by omega)) (fun c => ?_) (fun c => ?_)
    · have e : fixI ws w = none := by
        unfold fixI
        rw [List.findIdx?_eq_none_iff]
        intro y hy
        obtain ⟨j, hj, rfl⟩ := List.mem_iff_getElem.mp hy
        have := hno j (by omega)
        rw [List.getElem?_eq_getElem hj] at this
        simpa using this
      rw [e]
      exact Hx.ret ⟨rfl, rfl⟩
    · have hk2 : k < ws.length := by omega
      obtain ⟨t, e1, e2⟩ := hel k ws[k] (List.getElem?_eq_getElem hk2)
      rw [e1]
      refine hx_bs ?_
      rw [e2]
      refine hx_bs (Hx.cs (fun c2 => ?_) (fun c2 => ?_))
      · have e : fixI ws w = some k := by
          unfold fixI
          rw [List.findIdx?_eq_some_iff_getElem]
          refine ⟨hk2, by simpa using c2, fun j hj => ?_⟩
          have := hno j hj
          rw [List.getElem?_eq_getElem (by omega)] at this
          simpa using this
        rw [e]
        refine Hx.ce (sm_eq (by omega) (by omega)) (fun c3 => ?_) (fun c3 => ?_)
        · rw [if_pos c3]
          refine Hx.ret ⟨rfl, ?_⟩
          rw [sm_iz]
          congr 1
          show (k : Int) = ((0 : Nat) : Int) + k
          omega
        · rw [if_neg c3, f1]
          refine hx_bs ?_
          rw [a1]
          refine hx_bs ?_
          rw [sm_add]
          refine Hx.ret ⟨rfl, ?_⟩
          rw [sm_iz]
          congr 1
      · refine hx_nm ?_
        rw [sm_add, ih (k + 1) (by omega) (by omega) (fun j hj => ?_)]
        · exact Hx.ret ⟨rfl, rfl⟩
        · by_cases e : j = k
          · subst e
            rw [List.getElem?_eq_getElem hk2]
            simpa using c2
          · exact hno j (by omega)
theorem cb_find {σ : St} {x b na fa f : Nat} {w : Int32} {ns : List NE} {fs : List FE} (hB : KBk σ x b na fa ns fs) (hf : f ≤ 1) : fX0_find σ b w (nI f) = some (σ, iz (thn (fixI (if f = 0 then ns.map (·.1) else fs.map (·.1)) w) (if f = 0 then 0 else ns.length))) := by
  obtain ⟨f1, f2, a1, a2, c5⟩ := ob_f hB
  have hln := hB.1.2.2
  apply hx_eq
  rw [n_fX0_find]
  refine Hx.ce (sm_eq (by omega) (by omega)) (fun c => ?_) (fun c => ?_)
  · rw [f1]
    refine hx_bs ?_
    rw [n_fX0_find_15, cb_find_loop hB hf na _ (by rw [if_pos c]) rfl FU 0 (by rw [if_pos c, List.length_map]; show ns.length - 0 < 4294967296; omega) (Nat.zero_le _) (fun j hj => absurd hj (Nat.not_lt_zero _))]
    exact Hx.ret ⟨rfl, rfl⟩
  · rw [f2]
    refine hx_bs ?_
    rw [n_fX0_find_15, cb_find_loop hB hf fa _ (by rw [if_neg c]) rfl FU 0 (by rw [if_neg c, List.length_map]; show fs.length - 0 < 4294967296; omega) (Nat.zero_le _) (fun j hj => absurd hj (Nat.not_lt_zero _))]
    exact Hx.ret ⟨rfl, rfl⟩
theorem KBk.wn {σ : St} {x b na fa : Nat} {ns : List NE} {fs : List FE} (h : KBk σ x b na fa ns fs) : (∀ y ∈ ns.map (·.1), y < 2147483648) ∧ ∀ y ∈ fs.map (·.1), y < 2147483648 := by
  refine ⟨fun y hy => ?_, fun y hy => ?_⟩
  · obtain ⟨e, he, rfl⟩ := List.mem_map.mp hy
    obtain ⟨j, hj, rfl⟩ := List.mem_iff_getElem.mp he
    exact (h.2.2.2.1 j _ (List.getElem?_eq_getElem hj)).2.1.2
  · obtain ⟨e, he, rfl⟩ := List.mem_map.mp hy
    obtain ⟨j, hj, rfl⟩ := List.mem_iff_getElem.mp he
    exact (h.2.2.2.2 j _ (List.getElem?_eq_getElem hj)).1.2.1.2
theorem cb_findN {σ : St} {x b na fa w : Nat} {ns : List NE} {fs : List FE} (hB : KBk σ x b na fa ns fs) (hw : w < 2147483648) : fX0_find σ b (nI w) (nI 0) = some (σ, iz (thn (fix (ns.map (·.1)) w) 0)) := by
  rw [cb_find hB (show 0 ≤ 1 by omega), if_pos rfl, if_pos rfl, fixI_nat hB.wn.1 hw]
theorem cb_findF {σ : St} {x b na fa w : Nat} {ns : List NE} {fs : List FE} (hB : KBk σ x b na fa ns fs) (hw : w < 2147483648) : fX0_find σ b (nI w) (nI 1) = some (σ, iz (thn (fix (fs.map (·.1)) w) ns.length)) := by
  rw [cb_find hB (show 1 ≤ 1 by omega), if_neg (by omega), if_neg (by omega), fixI_nat hB.wn.2 hw]
theorem cb_toldM {σ : St} {b : Nat} : fX0_toldAt σ b (iz (-1)) = some (σ, 0) := by
  rw [n_fX0_toldAt, if_pos (by rw [xm_lt (by omega) (by omega) (by omega)]; omega)]
theorem cb_toldAt {σ : St} {x b na fa i : Nat} {ns : List NE} {fs : List FE} (hB : KBk σ x b na fa ns fs) (hi : i < ns.length + fs.length) : fX0_toldAt σ b (nI i) = some (σ, if i < ns.length then sQ σ na i else sQ σ fa (i - ns.length)) := by
  obtain ⟨f1, f2, a1, a2, c5⟩ := ob_f hB
  have hln := hB.1.2.2
  apply hx_eq
  rw [n_fX0_toldAt]
  refine Hx.ce (sm_lt (by omega) (by omega)) (fun c => by omega) (fun _ => ?_)
  simp only [f1, f2, a1, a2, sm_bind, sm_add]
  refine Hx.ce (sm_lt (by omega) (by omega)) (fun _ => ?_) (fun c => absurd hi c)
  refine Hx.ce (sm_le (by omega) (by omega)) (fun c => ?_) (fun c => ?_)
  · rw [sm_sub c, hB.ldf (by omega), if_neg (by omega)]
    exact hx_bs (Hx.ret ⟨rfl, rfl⟩)
  · rw [hB.ld (by omega), if_pos (by omega)]
    exact hx_bs (Hx.ret ⟨rfl, rfl⟩)
theorem cx_valuesOf {σ : St} {st : Nat} (h : st ≤ 20 ∧ st ≠ 9) : fX11_valuesOf σ (nI st) = some (σ, nI (arity st)) := by
  have e0 : ∀ k : Nat, k < 100 → (nI st = nI k) = (st = k) := fun k hk => sm_eq (by omega) (by omega)
  rw [n_fX11_valuesOf]
  simp only [e0 _ (show 7 < 100 by omega), e0 _ (show 8 < 100 by omega), e0 _ (show 9 < 100 by omega), e0 _ (show 10 < 100 by omega), e0 _ (show 11 < 100 by omega), e0 _ (show 12 < 100 by omega), e0 _ (show 13 < 100 by omega), e0 _ (show 14 < 100 by omega), e0 _ (show 15 < 100 by omega), e0 _ (show 16 < 100 by omega), e0 _ (show 17 < 100 by omega), e0 _ (show 18 < 100 by omega)]
  have ea : arity st = if st = 7 ∨ st = 8 ∨ st = 12 ∨ st = 13 ∨ st = 14 ∨ st = 15 ∨ st = 17 ∨ st = 18 then 1 else 2 := by
    by_cases c : two st
    · rw [ar_pos c]
      unfold two at c
      rw [if_neg (by omega)]
    · rw [ar_neg c]
      unfold two at c
      rw [if_pos (by omega)]
  rw [ea]
  have h20 : st = 0 ∨ st = 1 ∨ st = 2 ∨ st = 3 ∨ st = 4 ∨ st = 5 ∨ st = 6 ∨ st = 7 ∨ st = 8 ∨ st = 10 ∨ st = 11 ∨ st = 12 ∨ st = 13 ∨ st = 14 ∨ st = 15 ∨ st = 16 ∨ st = 17 ∨ st = 18 ∨ st = 19 ∨ st = 20 := by omega
  rcases h20 with rfl | rfl | rfl | rfl | rfl | rfl | rfl | rfl | rfl | rfl | rfl | rfl | rfl | rfl | rfl | rfl | rfl | rfl | rfl | rfl <;> rfl
