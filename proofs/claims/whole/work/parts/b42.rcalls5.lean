/-! ===== the reference's calls: names and functions ===== -/
theorem rf_thI {m b f : Nat} {σ : St} {ws : List Nat} {v : Int32} (hm : MS σ m) (hf : f ≤ 1) (hb : b = if f = 0 then 0 else 20) (hl : ws.length ≤ (if f = 0 then 20 else 10)) (hn : Fi σ m (if f = 0 then 40 else 41) (nI ws.length)) (hW : ∀ k x, ws[k]? = some x → sA σ (m + 18) (b + k) = nI x) :
    ∀ (n k : Nat), ws.length - k < n → k ≤ ws.length → fX12_thing_14 n σ m v (nI f) (nI b) (nI (b + k)) = some (σ, iz (thn (fixI (ws.drop k) v) (b + k))) := by
  have hb20 : b ≤ 20 := by rw [hb]; split <;> omega
  have hbl : b + ws.length ≤ 30 := by
    by_cases h0 : f = 0
    · rw [if_pos h0] at hl hb; omega
    · rw [if_neg h0] at hl hb; omega
  intro n
  induction n with
  | zero => intro k h; omega
  | succ n ih =>
    intro k hk hkl
    have core : fX12_thing_32 (fX12_thing_14 n) σ m v (nI f) (nI b) (nI (b + k)) (nI (b + k)) (nI b) (nI ws.length) = some (σ, iz (thn (fixI (ws.drop k) v) (b + k))) := by
      apply hx_eq
      rw [n_fX12_thing_32, sm_add]
      refine Hx.ce (sm_le (by omega) (by omega)) (fun c => ?_) (fun c => ?_)
      · rw [List.drop_of_length_le (by omega)]
        exact Hx.ret ⟨rfl, rfl⟩
      · have hk2 : k < ws.length := by omega
        have hd : ws.drop k = ws[k] :: ws.drop (k + 1) := List.drop_eq_getElem_cons hk2
        rw [rf_word hm]
        refine hx_bs ?_
        rw [ld_word hm (by omega), hW k _ (List.getElem?_eq_getElem hk2)]
        refine hx_bs ?_
        refine Hx.ce rfl (fun c2 => ?_) (fun c2 => ?_)
        · refine Hx.ret ⟨rfl, ?_⟩
          have : fixI (ws.drop k) v = some 0 := by
            rw [hd]
            generalize List.drop (k + 1) ws = tl
            simp [fixI, List.findIdx?_cons, c2]
          rw [this, sm_iz]
          rfl
        · refine hx_nm ?_
          have i1 := ih (k + 1) (by omega) (by omega)
          rw [sm_add, Nat.add_assoc, i1]
          refine Hx.ret ⟨rfl, ?_⟩
          have hfx : fixI (ws.drop k) v = (fixI (ws.drop (k + 1)) v).map (· + 1) := by
            rw [hd]
            generalize List.drop (k + 1) ws = tl
            simp [fixI, List.findIdx?_cons, c2]
          rw [hfx]
          cases fixI (ws.drop (k + 1)) v with
          | none => rfl
          | some j =>
            show iz (((b + (k + 1) + j : Nat)) : Int) = iz ((b + k + (j + 1) : Nat) : Int)
            congr 1
            omega
    rw [n_fX12_thing_14]
    by_cases h0 : f = 0
    · rw [if_pos h0] at hn
      rw [if_pos (by rw [h0]), fi_g hm hn]
      exact core
    · rw [if_neg h0] at hn
      rw [if_neg (by rw [sm_eq (by omega) (by omega)]; exact h0), fi_g hm hn]
      exact core
theorem rf_thNI {m vm : Nat} {v : Int32} {σ : St} {ns : List NE} {fs : List FE} (hm : MS σ m) (hB : Rbk σ m vm ns fs) : fX12_thing σ m v (nI 0) = some (σ, iz (thn (fixI (ns.map (·.1)) v) 0)) := by
  obtain ⟨⟨a1, a2, a3, a4⟩, h2, h3⟩ := hB
  have := rf_thI (v := v) (f := 0) (b := 0) (ws := ns.map (·.1)) hm (by omega) rfl (by rw [List.length_map]; exact a2) (by rw [List.length_map]; exact a1) (fun k x hx => by
    obtain ⟨e, he, rfl⟩ := fst_of hx
    rw [Nat.zero_add]
    exact (h2 k e he).1) FU 0 (by rw [List.length_map]; unfold FU; omega) (by omega)
  rw [n_fX12_thing, if_pos rfl, n_fX12_thing_10]
  exact this
theorem rf_thFI {m vm : Nat} {v : Int32} {σ : St} {ns : List NE} {fs : List FE} (hm : MS σ m) (hB : Rbk σ m vm ns fs) : fX12_thing σ m v (nI 1) = some (σ, iz (thn (fixI (fs.map (·.1)) v) 20)) := by
  obtain ⟨⟨a1, a2, a3, a4⟩, h2, h3⟩ := hB
  have := rf_thI (v := v) (f := 1) (b := 20) (ws := fs.map (·.1)) hm (by omega) rfl (by rw [List.length_map]; exact a4) (by rw [List.length_map]; exact a3) (fun k x hx => by
    rw [List.getElem?_map] at hx
    cases hn : fs[k]? with
    | none => rw [hn] at hx; cases hx
    | some e =>
      rw [hn] at hx
      have hx : e.1 = x := Option.some.inj hx
      rw [← hx]
      exact (h3 k e hn).1) FU 0 (by rw [List.length_map]; unfold FU; omega) (by omega)
  rw [n_fX12_thing, if_neg (by decide), n_fX12_thing_10]
  exact this
/-- what is found under a word -/
def fnd {α β : Type} (f : α → Nat) (g : α → β) (l : List α) (v : Int32) : Option β := (fixI (l.map f) v).bind fun k => l[k]?.map g
theorem fnd_some {α β : Type} {f : α → Nat} {g : α → β} {l : List α} {v : Int32} {k : Nat} (h : fixI (l.map f) v = some k) : ∃ e, l[k]? = some e ∧ nI (f e) = v ∧ fnd f g l v = some (g e) := by
  obtain ⟨w, h1, h2⟩ := fixI_get h
  rw [List.getElem?_map] at h1
  cases he : l[k]? with
  | none => rw [he] at h1; cases h1
  | some e =>
    rw [he] at h1
    refine ⟨e, rfl, by rw [show f e = w from Option.some.inj h1]; exact h2, ?_⟩
    unfold fnd
    rw [h]
    show l[k]?.map g = _
    rw [he]
    rfl
theorem fnd_none {α β : Type} {f : α → Nat} {g : α → β} {l : List α} {v : Int32} (h : fixI (l.map f) v = none) : fnd f g l v = none := by
  unfold fnd
  rw [h]
  rfl
theorem ri_takeName {σ : St} {m : Nat} {c : Rct} {s : Rst} {v : Int32} (hv : c.1 < 12600) (h : RI σ m c s) : Hx (fX12_takeName σ m v) (RO m c s (if (fnd (·.1) (·.2.2) s.2.2.2.2.2.2.2.1.1 v).isSome then 0 else 1) ((fnd (·.1) (·.2.2) s.2.2.2.2.2.2.2.1.1 v).getD (0, 0, 1)).1 (if (fnd (·.1) (·.2.2) s.2.2.2.2.2.2.2.1.1 v).isSome then setA s ((fnd (·.1) (·.2.2) s.2.2.2.2.2.2.2.1.1 v).getD (0, 0, 1)) else s) σ) := by
  rw [n_fX12_takeName]
  refine rf_set0 h.1.1 (fun σ1 r1 m1 f0 => ?_)
  have h1 := h.k0 r1
  have hB := h1.2.2.1.cur.B
  rw [rf_ck m1]
  refine hx_bs ?_
  rw [rf_thNI m1 hB]
  refine hx_cs ?_
  cases hf : fixI (s.2.2.2.2.2.2.2.1.1.map (·.1)) v with
  | none =>
    rw [fnd_none (f := fun (x : NE) => x.1) hf]
    refine Hx.ce rfl (fun _ => ?_) (fun z => absurd rfl z)
    rw [n_fX12_takeName_23, rf_ck m1]
    refine hx_bs ?_
    refine Hx.bd (rf_fails0 m1 f0 (show 0 < 1 by omega) (by omega)) (fun σ5 v g => ?_)
    obtain ⟨rfl, r5, f5⟩ := g
    refine Hx.ce (sm_eq (show 1 < 2147483648 by omega) (by omega)) (fun z => absurd z (by omega)) (fun _ => ?_)
    exact Hx.ret ⟨r1.1.tr r5.1, f5, fun q => (by cases q), c, h1.k0 r5, RBd.rf rfl⟩
  | some k =>
    obtain ⟨e, e1, e2, e3⟩ := fnd_some (f := fun (x : NE) => x.1) (g := fun x => x.2.2) hf
    have hk := (List.getElem?_eq_some_iff.mp e1).1
    have b20 := hB.1.2.1
    rw [e3]
    have et : thn (some k) 0 = ((k : Nat) : Int) := by show ((0 + k : Nat) : Int) = _; rw [Nat.zero_add]
    rw [et, ← sm_iz]
    refine Hx.ce (nIm (by omega)) (fun z => z.elim) (fun _ => ?_)
    rw [n_fX12_takeName_23, rf_ck m1]
    refine hx_bs ?_
    rw [rf_fails1 m1 f0]
    refine hx_cs (Hx.ce rfl (fun _ => ?_) (fun q => absurd rfl q))
    obtain ⟨b1, b2, _, vi, b5, b6⟩ := hB.2.1 k e e1
    rw [rf_valueOf m1]
    refine hx_bs ?_
    rw [ld_valueOf m1 (by omega), b5]
    refine hx_bs ?_
    rw [rf_ck m1]
    refine hx_bs ?_
    refine Hx.bd (ri_becomes h1 hv b6.2 (Or.inr b6.1.2.1)) (fun σ3 v g => ?_)
    obtain ⟨rfl, g1, c', g2, g3, g4⟩ := g
    exact Hx.ret ⟨r1.1.tr g1.1, f0.keep g1 (by decide), fun _ => rfl, c', g2, RBd.b1 rfl g3.2 g4⟩
theorem ri_parameters {σ : St} {m : Nat} {c : Rct} {s : Rst} {v : Int32} (h : RI σ m c s) : Hx (fX12_parameters σ m v) (RO m c s (if (fnd (·.1) (·.2.1) s.2.2.2.2.2.2.2.1.2.1 v).isSome then 0 else 1) ((fnd (·.1) (·.2.1) s.2.2.2.2.2.2.2.1.2.1 v).getD 0 : Nat) s σ) := by
  rw [n_fX12_parameters]
  refine rf_set0 h.1.1 (fun σ1 r1 m1 f0 => ?_)
  have h1 := h.k0 r1
  have hB := h1.2.2.1.cur.B
  rw [rf_ck m1]
  refine hx_bs ?_
  rw [rf_thFI m1 hB]
  refine hx_cs ?_
  cases hf : fixI (s.2.2.2.2.2.2.2.1.2.1.map (·.1)) v with
  | none =>
    rw [fnd_none (f := fun (x : FE) => x.1) hf]
    refine Hx.ce rfl (fun _ => ?_) (fun z => absurd rfl z)
    rw [n_fX12_parameters_23, rf_ck m1]
    refine hx_bs ?_
    refine Hx.bd (rf_fails0 m1 f0 (show 0 < 1 by omega) (by omega)) (fun σ5 v g => ?_)
    obtain ⟨rfl, r5, f5⟩ := g
    refine Hx.ce (sm_eq (show 1 < 2147483648 by omega) (by omega)) (fun z => absurd z (by omega)) (fun _ => ?_)
    exact Hx.ret ⟨r1.1.tr r5.1, f5, fun q => (by cases q), c, h1.k0 r5, RBd.rf rfl⟩
  | some k =>
    obtain ⟨e, e1, e2, e3⟩ := fnd_some (f := fun (x : FE) => x.1) (g := fun x => x.2.1) hf
    have hk := (List.getElem?_eq_some_iff.mp e1).1
    have b10 := hB.1.2.2.2
    rw [e3]
    have et : thn (some k) 20 = ((20 + k : Nat) : Int) := rfl
    rw [et, ← sm_iz]
    refine Hx.ce (nIm (by omega)) (fun z => z.elim) (fun _ => ?_)
    rw [n_fX12_parameters_23, rf_ck m1]
    refine hx_bs ?_
    rw [rf_fails1 m1 f0]
    refine hx_cs (Hx.ce rfl (fun _ => ?_) (fun q => absurd rfl q))
    obtain ⟨b1, b2, d, b3, b4, b5, st, b6, b7, b8, b9⟩ := hB.2.2 k e e1
    rw [rf_defPar m1]
    refine hx_bs ?_
    rw [rf_def m1]
    refine hx_bs ?_
    rw [ld_def m1 (by omega), b3]
    refine hx_bs ?_
    rw [ld_defPar m1 b4, b8]
    exact hx_bs (Hx.ret ⟨r1.1, f0, fun _ => sm_iz _, c, h1, RBd.rf rfl⟩)
/-- the thing under a word -/
def thq (B : As) (f : Nat) (v : Int32) : Option Th := if f = 0 then fnd (·.1) (fun e => ((0, e.1, e.2.1) : Th)) B.1 v else fnd (·.1) (fun e => ((1, e.1, e.2.2) : Th)) B.2.1 v
theorem rf_thq {m vm f : Nat} {v : Int32} {σ : St} {B : As} (hf : f ≤ 1) (hm : MS σ m) (hB : Rbk σ m vm B.1 B.2.1) : (thq B f v = none ∧ fX12_thing σ m v (nI f) = some (σ, iz (-1))) ∨ ∃ t e, thq B f v = some e ∧ tg B.1 B.2.1 t = some e ∧ t < 30 ∧ fX12_thing σ m v (nI f) = some (σ, nI t) ∧ ((f = 0 ∧ fixI (B.1.map (·.1)) v = some t ∧ t < B.1.length) ∨ (f = 1 ∧ ∃ k, t = 20 + k ∧ fixI (B.2.1.map (·.1)) v = some k ∧ k < B.2.1.length)) := by
  have b20 := hB.1.2.1
  have b10 := hB.1.2.2.2
  by_cases h0 : f = 0
  · subst h0
    have h := rf_thNI (v := v) hm hB
    cases hx : fixI (B.1.map (·.1)) v with
    | none =>
      rw [hx] at h
      refine Or.inl ⟨?_, h⟩
      unfold thq
      rw [if_pos rfl]
      exact fnd_none (f := fun (x : NE) => x.1) hx
    | some k =>
      rw [hx] at h
      obtain ⟨e, e1, e2, e3⟩ := fnd_some (f := fun (x : NE) => x.1) (g := fun e => ((0, e.1, e.2.1) : Th)) hx
      have hk := (List.getElem?_eq_some_iff.mp e1).1
      have et : thn (some k) 0 = ((k : Nat) : Int) := by show ((0 + k : Nat) : Int) = _; rw [Nat.zero_add]
      refine Or.inr ⟨k, _, by unfold thq; rw [if_pos rfl]; exact e3, ?_, by omega, by rw [h, et, ← sm_iz], Or.inl ⟨rfl, rfl, hk⟩⟩
      unfold tg
      rw [if_pos (by omega), e1]
      rfl
  · have h1 : f = 1 := by omega
    subst h1
    have h := rf_thFI (v := v) hm hB
    cases hx : fixI (B.2.1.map (·.1)) v with
    | none =>
      rw [hx] at h
      refine Or.inl ⟨?_, h⟩
      unfold thq
      rw [if_neg h0]
      exact fnd_none (f := fun (x : FE) => x.1) hx
    | some k =>
      rw [hx] at h
      obtain ⟨e, e1, e2, e3⟩ := fnd_some (f := fun (x : FE) => x.1) (g := fun e => ((1, e.1, e.2.2) : Th)) hx
      have hk := (List.getElem?_eq_some_iff.mp e1).1
      have et : thn (some k) 20 = ((20 + k : Nat) : Int) := rfl
      refine Or.inr ⟨20 + k, _, by unfold thq; rw [if_neg h0]; exact e3, ?_, by omega, by rw [h, et, ← sm_iz], Or.inr ⟨rfl, k, rfl, rfl, hk⟩⟩
      unfold tg
      rw [if_neg (by omega), Nat.add_sub_cancel_left, e1]
      rfl
/-- whether one thing uses another -/
noncomputable def usq (B : As) (f : Nat) (v : Int32) (g : Nat) (w : Int32) : Nat := match thq B f v, thq B g w with
  | some e, some e' => b01 (Rch (Ths B.1 B.2.1) e.2.2 e')
  | _, _ => 0
theorem RI.k21 {σ σ' : St} {m : Nat} {c : Rct} {s : Rst} (h : RI σ m c s) (hR : rfM m [] [21] nV σ σ') : RI σ' m c s := h.keep hR ⟨by decide, by decide⟩ (fun _ _ _ => Or.inl (fun z => z))
theorem ri_uses {σ : St} {m f g : Nat} {c : Rct} {s : Rst} {v w : Int32} (hf : f ≤ 1) (hg : g ≤ 1) (h : RI σ m c s) : Hx (fX12_uses σ m v (nI f) w (nI g)) (RV m c s (usq s.2.2.2.2.2.2.2.1 f v g w) s σ) := by
  rw [n_fX12_uses]
  refine rf_set0 h.1.1 (fun σ1 r1 m1 f0 => ?_)
  have h1 := h.k0 r1
  have hB := h1.2.2.1.cur.B
  unfold usq
  rw [rf_ck m1]
  refine hx_bs ?_
  rcases rf_thq (v := v) hf m1 hB with ⟨q1, q2⟩ | ⟨t, e, q1, q2, q3, q4, _⟩
  · rw [q2]
    refine hx_cs ?_
    rw [rf_ck m1]
    refine hx_bs ?_
    have fin : ∀ z, Hx (if iz (-1) = iz (-1) then some (σ1, nI 0) else z) (RV m c s (match thq s.2.2.2.2.2.2.2.1 f v, thq s.2.2.2.2.2.2.2.1 g w with
      | some e, some e' => b01 (Rch (Ths s.2.2.2.2.2.2.2.1.1 s.2.2.2.2.2.2.2.1.2.1) e.2.2 e')
      | _, _ => 0 : Nat) s σ) := by
      intro z
      rw [if_pos rfl, q1]
      exact Hx.ret ⟨r1.1, rfl, c, h1, RBd.rf rfl⟩
    rcases rf_thq (v := w) hg m1 hB with ⟨u1, u2⟩ | ⟨t', e', u1, u2, u3, u4, _⟩
    · rw [u2]; exact hx_cs (fin _)
    · rw [u4]; exact hx_cs (fin _)
  · rw [q4]
    refine hx_cs ?_
    rw [rf_ck m1]
    refine hx_bs ?_
    rcases rf_thq (v := w) hg m1 hB with ⟨u1, u2⟩ | ⟨t', e', u1, u2, u3, u4, _⟩
    · rw [u2]
      refine hx_cs ?_
      refine Hx.ce (nIm (by omega)) (fun z => z.elim) (fun _ => ?_)
      refine Hx.ce rfl (fun _ => ?_) (fun z => absurd rfl z)
      rw [q1, u1]
      exact Hx.ret ⟨r1.1, rfl, c, h1, RBd.rf rfl⟩
    · rw [u4]
      refine hx_cs ?_
      refine Hx.ce (nIm (by omega)) (fun z => z.elim) (fun _ => ?_)
      refine Hx.ce (nIm (by omega)) (fun z => z.elim) (fun _ => ?_)
      rw [rf_ck m1]
      refine hx_bs ?_
      refine Hx.bd (rf_doesUse m1 hB q2 u2) (fun σ2 v g => ?_)
      obtain ⟨rfl, r2⟩ := g
      rw [q1, u1]
      refine Hx.ce b01_0 (fun z => ?_) (fun z => ?_)
      · refine Hx.ret ⟨r1.1.tr r2.1, ?_, c, h1.k21 r2, RBd.rf rfl⟩
        show nI 0 = iz ((b01 _ : Nat) : Int)
        rw [b01_n z]
        rfl
      · refine Hx.ret ⟨r1.1.tr r2.1, ?_, c, h1.k21 r2, RBd.rf rfl⟩
        show nI 1 = iz ((b01 _ : Nat) : Int)
        rw [b01_p (Classical.not_not.mp z)]
        rfl
/-- how many names use a thing -/
noncomputable def usn (T : List Th) (ns : List NE) (e : Th) : Nat := (ns.filter fun x => @decide (Rch T x.2.1 e) (Classical.propDecidable _)).length
theorem usn_n {T : List Th} {l : List NE} {x : NE} {e : Th} (h : ¬ Rch T x.2.1 e) : usn T (x :: l) e = usn T l e := by
  unfold usn
  rw [List.filter_cons]
  split
  · rename_i q
    exact absurd (@of_decide_eq_true _ (Classical.propDecidable _) q) h
  · rfl
theorem usn_p {T : List Th} {l : List NE} {x : NE} {e : Th} (h : Rch T x.2.1 e) : usn T (x :: l) e = usn T l e + 1 := by
  unfold usn
  rw [List.filter_cons]
  split
  · rfl
  · rename_i q
    exact absurd (@decide_eq_true _ (Classical.propDecidable _) h) q
theorem rf_usersL {m vm t : Nat} {ns : List NE} {fs : List FE} {e : Th} (hte : tg ns fs t = some e) (ht : t < 30) : ∀ (n : Nat) (σ : St) (x k : Nat), ns.length - k < n → k ≤ ns.length → x ≤ k → MS σ m → Rbk σ m vm ns fs →
    Hx (fX12_users__18 n σ m (nI t) (nI x) (nI k)) (fun σ' v => v = nI (x + usn (Ths ns fs) (ns.drop k) e) ∧ rfM m [] [21] nV σ σ') := by
  intro n
  induction n with
  | zero => intro σ x k h; omega
  | succ n ih =>
    intro σ x k hn hk hx hm hB
    have b20 := hB.1.2.1
    rw [n_fX12_users__18, fi_g hm hB.1.1]
    refine hx_bs ?_
    refine Hx.ce (sm_le (by omega) (by omega)) (fun c => ?_) (fun c => ?_)
    · rw [List.drop_of_length_le c]
      exact Hx.ret ⟨rfl, rfM.rf⟩
    · have hk2 : k < ns.length := by omega
      have hd : ns.drop k = ns[k] :: ns.drop (k + 1) := List.drop_eq_getElem_cons hk2
      refine Hx.ce (nIm (by omega)) (fun z => z.elim) (fun _ => ?_)
      rw [rf_ck hm]
      refine hx_bs ?_
      have hto : tg ns fs k = some (0, ns[k].1, ns[k].2.1) := by
        unfold tg
        rw [if_pos (by omega), List.getElem?_eq_getElem hk2]
        rfl
      refine Hx.bd (rf_doesUse hm hB hto hte) (fun σ2 v g => ?_)
      obtain ⟨rfl, r2⟩ := g
      have m2 := r2.ms hm
      have hB2 := hB.keepM r2 (by unfold Rnot; decide) (fun _ _ _ z => z)
      refine Hx.ce b01_0 (fun z => ?_) (fun z => ?_)
      · rw [n_fX12_users__49]
        refine hx_nm (hx_nm ?_)
        rw [sm_add, sm_add, Nat.add_zero]
        refine (ih σ2 x (k + 1) (by omega) hk2 (by omega) m2 hB2).mo (fun σ3 v g => ⟨?_, r2.tr g.2⟩)
        rw [g.1, hd, usn_n z]
      · rw [n_fX12_users__49]
        refine hx_nm (hx_nm ?_)
        rw [sm_add, sm_add]
        refine (ih σ2 (x + 1) (k + 1) (by omega) hk2 (by omega) m2 hB2).mo (fun σ3 v g => ⟨?_, r2.tr g.2⟩)
        rw [g.1, hd, usn_p (Classical.not_not.mp z)]
        congr 1
        omega
noncomputable def usQ (B : As) (f : Nat) (v : Int32) : Nat := match thq B f v with
  | some e => usn (Ths B.1 B.2.1) B.1 e
  | none => 0
theorem ri_users {σ : St} {m f : Nat} {c : Rct} {s : Rst} {v : Int32} (hf : f ≤ 1) (h : RI σ m c s) : Hx (fX12_users_ σ m v (nI f)) (RV m c s (usQ s.2.2.2.2.2.2.2.1 f v) s σ) := by
  rw [n_fX12_users_]
  refine rf_set0 h.1.1 (fun σ1 r1 m1 f0 => ?_)
  have h1 := h.k0 r1
  have hB := h1.2.2.1.cur.B
  have b20 := hB.1.2.1
  unfold usQ
  rw [rf_ck m1]
  refine hx_bs ?_
  rcases rf_thq (v := v) hf m1 hB with ⟨q1, q2⟩ | ⟨t, e, q1, q2, q3, q4, _⟩
  · rw [q2, q1]
    refine hx_cs ?_
    have : FU = (FU - 1) + 1 := by unfold FU; omega
    rw [this, n_fX12_users__18, fi_g m1 hB.1.1]
    refine hx_bs ?_
    refine Hx.ce (sm_le (by omega) (by omega)) (fun c2 => ?_) (fun c2 => ?_)
    · exact Hx.ret ⟨r1.1, rfl, c, h1, RBd.rf rfl⟩
    · refine Hx.ce rfl (fun _ => ?_) (fun z => absurd rfl z)
      exact Hx.ret ⟨r1.1, rfl, c, h1, RBd.rf rfl⟩
  · rw [q4, q1]
    refine hx_cs ?_
    refine (rf_usersL q2 q3 FU σ1 0 0 (by unfold FU; omega) (by omega) (by omega) m1 hB).mo (fun σ2 v g => ?_)
    obtain ⟨rfl, r2⟩ := g
    refine ⟨r1.1.tr r2.1, ?_, c, h1.k21 r2, RBd.rf rfl⟩
    rw [Nat.zero_add, List.drop_zero, sm_iz]
