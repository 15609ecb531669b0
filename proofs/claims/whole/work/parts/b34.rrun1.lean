/-! ===== the reference's run: what stands when a line was read ===== -/
theorem wvf_z {t : List Nat} : ∀ (k p n : Nat), n % 27 ≠ 0 → wvf t k p n % 27 ≠ 0 := by
  intro k
  induction k with
  | zero => intro p n h; exact h
  | succ k ih =>
    intro p n h
    unfold wvf
    split
    · rename_i c
      have := isL_i.mp c.2
      exact ih _ _ (by omega)
    · exact h
theorem tk_ok {t : List Nat} {i : Nat} (h : (tk t i).1 = 1) : Wok (tk t i).2.1 := by
  refine ⟨(tk_b i).2.2.2.1 h, ?_⟩
  have key : ∀ s, (lxs t s).1 = 1 → (lxs t s).2.1 % 27 ≠ 0 := by
    intro s h
    unfold lxs at h ⊢
    split at h
    · cases h
    rename_i c0
    rw [if_neg c0]
    split at h
    · rename_i c1
      rw [if_pos c1]
      split at h
      · cases h
      · rename_i c2
        rw [if_neg c2]
        show wvf t 6 s 0 % 27 ≠ 0
        unfold wvf
        have := isL_i.mp c1
        rw [if_pos ⟨by omega, c1⟩]
        exact wvf_z _ _ _ (by omega)
    rename_i c1
    exfalso
    split at h
    · cases hE : eN t s with
      | none => rw [hE] at h; cases h
      | some e => rw [hE] at h; cases h
    · split at h
      · rename_i c3
        have := sgn_i.mp c3
        unfold sgb at this
        have h : tb t s = 1 := h
        omega
      · cases h
  exact key _ h
theorem frm_w {t : List Nat} (h : frm t ≠ 0) : (tk t 0).1 = 1 := by
  unfold frm at h
  by_cases c : (tk t 0).1 ≠ 1
  · rw [if_pos c] at h; exact absurd rfl h
  · exact Classical.not_not.mp c
theorem hdp_4 {t : List Nat} : ∀ (k i : Nat) (ps : List Nat) (r : Nat × List Nat), hdp t k i ps = .inr r → r.2.length ≤ 4 := by
  intro k
  induction k with
  | zero => intro i ps r h; cases h
  | succ k ih =>
    intro i ps r h
    unfold hdp at h
    split at h
    · cases h
    · rename_i c
      have : ps.length < 4 := by
        rcases Nat.lt_or_ge ps.length 4 with q | q
        · exact q
        · exact absurd (Or.inl q) c
      split at h
      · cases h
        show (ps ++ [(tk t i).2.1]).length ≤ 4
        rw [List.length_append, List.length_singleton]
        omega
      · exact ih _ _ _ h
theorem hdf_4 {t : List Nat} {r : Nat × List Nat} (h : hdf t = .inr r) : r.2.length ≤ 4 ∧ (frm t ≠ 2 → r.2 = []) := by
  unfold hdf at h
  split at h
  · cases h
    exact ⟨by show 0 ≤ 4; omega, fun _ => rfl⟩
  · split at h
    · cases h
      exact ⟨by show 0 ≤ 4; omega, fun _ => rfl⟩
    · rename_i c0 c1
      have := frm_b t
      exact ⟨hdp_4 _ _ _ _ h, fun c => absurd c (by omega)⟩
theorem prn_4 (t : List Nat) : prn t ≤ 4 ∧ (frm t ≠ 2 → prn t = 0) := by
  unfold prn
  cases h : hdf t with
  | inl i => exact ⟨Nat.zero_le _, fun _ => rfl⟩
  | inr r =>
    have := hdf_4 h
    exact ⟨this.1, fun c => by show r.2.length = 0; rw [this.2 c]; rfl⟩
theorem Kp.ln {m vm k0 dn : Nat} {σ σ' : St} (h : LineR m k0 vm σ σ') : Kp m vm k0 dn σ σ' := by
  refine ⟨h.2, fun a p q j _ => ?_, fun i p q => ⟨(h.1.2.2.2 i (by omega)).1, fun k hk => (h.1.2.2.2 i (by omega)).2 k hk⟩⟩
  have e : a = 10 ∨ a = 11 ∨ a = 12 := by omega
  rcases e with rfl | rfl | rfl
  · rw [h.1.ar 10 ⟨by decide, by omega, by omega⟩]
  · rw [h.1.ar 11 ⟨by decide, by omega, by omega⟩]
  · rw [h.1.ar 12 ⟨by decide, by omega, by omega⟩]
/-- a thing's row is written: those below it stay -/
theorem Kp.wa {m vm k0 dn a : Nat} {σ : St} {v : Int32} (ha : 10 ≤ a ∧ a ≤ 12) : Kp m vm k0 dn σ (wA σ (m + a) dn v) := by
  have w : rfM m [] [a] nV σ (wA σ (m + a) dn v) := rfM.wA (by simp) (by omega)
  refine ⟨Ol.of w (by simp; omega), fun b p q j hj => ?_, fun i _ _ => ⟨(w.2.2.2 i (fun z => z)).1, fun k hk => (w.2.2.2 i (fun z => z)).2 k hk⟩⟩
  by_cases c : b = a
  · subst c
    exact sA_wA_j (by omega)
  · rw [w.ar b ⟨by simp; exact c, by omega, by omega⟩]
/-- refusal, answer, slots, what is written, steps, states -/
def RC (σ : St) (m : Nat) (c : Rct) (s : Rst) : Prop := MS σ m ∧ RRf σ m s.2.2.1 ∧ (RAn σ m c.1 s.2.2.2.1 ∧ RSl σ m c.1 s.2.2.2.2.1 ∧ RWr σ m s.2.2.2.2.2.1 ∧ Shn σ m s.2.2.2.2.2.2.1) ∧ RH σ m c.1 c.2.1 c.2.2 s.2.2.2.2.2.2.2.1 s.2.2.2.2.2.2.2.2.1 s.2.2.2.2.2.2.2.2.2
def Frc (F A : List Nat) : Prop := (∀ f ∈ [40, 41, 43, 44, 45, 46, 56, 57, 72, 73, 78], f ∉ F) ∧ ∀ a ∈ [18, 19, 20, 25, 35, 36, 37, 39, 40, 41, 43], a ∉ A
theorem RC.keep {σ σ' : St} {m : Nat} {c : Rct} {s : Rst} {F A : List Nat} {V : Nat → Prop} (h : RC σ m c s) (hR : rfM m F A V σ σ') (hK : Kp m c.1 c.2.1 c.2.2 σ σ') (hF : Frc F A) (hv : ∀ i, 200 ≤ i → i < 400 → ¬ V i) : RC σ' m c s := by
  obtain ⟨a1, a4, ⟨b1, b2, b3, b4⟩, d⟩ := h
  obtain ⟨g1, g2⟩ := hF
  exact ⟨hR.ms a1, a4.keep hR ⟨g1 43 (by decide), g1 44 (by decide), g1 45 (by decide), g1 46 (by decide)⟩ (g2 35 (by decide)),
    ⟨b1.keep hR hK (g1 57 (by decide)), b2.keep hR hK (g2 41 (by decide)), b3.keep hR (g1 78 (by decide)) (g2 43 (by decide)), b4.keep hR (g1 56 (by decide)) (g2 25 (by decide)) hv⟩,
    d.keep hR hK ⟨g1 40 (by decide), g1 41 (by decide), g1 72 (by decide), g1 73 (by decide)⟩ ⟨g2 18 (by decide), g2 19 (by decide), g2 20 (by decide), g2 36 (by decide), g2 37 (by decide), g2 39 (by decide), g2 40 (by decide)⟩⟩
theorem RI.core {σ : St} {m : Nat} {c : Rct} {s : Rst} (h : RI σ m c s) : RC σ m c s := ⟨h.1.1, h.1.2.2.2, h.2.1, h.2.2.1⟩
theorem RTx.nil {σ : St} {m : Nat} (h8 : Fi σ m 8 (nI 0)) : RTx σ m [] := ⟨⟨h8, Nat.zero_le _⟩, fun i b h => (by cases h), fun b h => (by cases h)⟩
theorem RC.done {σ : St} {m : Nat} {c : Rct} {s : Rst} {t : List Nat} {e : Int} (h : RC σ m c s) (ht : RTx σ m t) (h9 : Fi σ m 9 (iz e)) (h5 : Fi σ m 5 (nI c.1)) (h21 : Fi σ m 21 (nI c.2.1)) (h25 : Fi σ m 25 (nI c.2.2)) (hb : 600 ≤ c.1 ∧ c.1 ≤ 12600 ∧ c.2.1 ≤ 12000 ∧ c.2.2 ≤ 600) : RI σ m c (t, e, s.2.2) :=
  ⟨⟨h.1, ht, h9, h.2.1⟩, h.2.2.1, h.2.2.2, ⟨h5, h21, h25⟩, hb⟩
theorem RC.refused {σ : St} {m : Nat} {c : Rct} {s : Rst} (h : RC σ m c s) {σ' : St} {r : Rfs} {F A : List Nat} {V : Nat → Prop} (hr : RRf σ' m r) (hR : rfM m F A V σ σ') (hK : Kp m c.1 c.2.1 c.2.2 σ σ') (hF : (∀ f ∈ [40, 41, 56, 57, 72, 73, 78], f ∉ F) ∧ ∀ a ∈ [18, 19, 20, 25, 36, 37, 39, 40, 41, 43], a ∉ A) (hv : ∀ i, 200 ≤ i → i < 400 → ¬ V i) : RC σ' m c (s.1, s.2.1, r, s.2.2.2) := by
  obtain ⟨a1, a4, ⟨b1, b2, b3, b4⟩, d⟩ := h
  obtain ⟨g1, g2⟩ := hF
  exact ⟨hR.ms a1, hr,
    ⟨b1.keep hR hK (g1 57 (by decide)), b2.keep hR hK (g2 41 (by decide)), b3.keep hR (g1 78 (by decide)) (g2 43 (by decide)), b4.keep hR (g1 56 (by decide)) (g2 25 (by decide)) hv⟩,
    d.keep hR hK ⟨g1 40 (by decide), g1 41 (by decide), g1 72 (by decide), g1 73 (by decide)⟩ ⟨g2 18 (by decide), g2 19 (by decide), g2 20 (by decide), g2 36 (by decide), g2 37 (by decide), g2 39 (by decide), g2 40 (by decide)⟩⟩
def rnS (form : Nat) (s : Rst) (v : Option (Qv × Sts)) (B' : As) : Rst :=
  ([], -1, s.2.2.1, (match v with | none => s.2.2.2.1 | some q => q.1), s.2.2.2.2.1, s.2.2.2.2.2.1, (match v with | none => s.2.2.2.2.2.2.1 | some q => q.2), if form = 0 then s.2.2.2.2.2.2.2 else (B', (if s.2.2.2.2.2.2.2.2.1.length = 20 then s.2.2.2.2.2.2.2.2.1.tail else s.2.2.2.2.2.2.2.2.1) ++ [s.2.2.2.2.2.2.2.1], []))
def RunQ (m : Nat) (c : Rct) (s : Rst) (E : Evt) (σ σ' : St) (v : Int32) : Prop := rfE m σ σ' ∧ match E with
  | .inl i => v = nI 0 ∧ Fi σ' m 0 (nI 1) ∧ RI σ' m c ([], ((tk s.1 i).2.2.1 : Nat), s.2.2)
  | .inr (_, .inl rf) => v = nI 0 ∧ Fi σ' m 0 (nI 2) ∧ RI σ' m c ([], -1, rf, s.2.2.2)
  | .inr (_, .inr (v', A')) => v = nI (frm s.1) ∧ Fi σ' m 0 (nI 0) ∧ ∃ (c' : Rct) (B' : As), Bti A' B' ∧ RI σ' m c' (rnS (frm s.1) s v' B') ∧ (c.1 ≤ c'.1 ∧ c'.1 ≤ c.1 + s.1.length + 23) ∧ c'.2.1 ≤ c.2.1 + s.1.length + 1 ∧ c'.2.2 ≤ c.2.2 + 1
/-- a line that is refused: all that it made goes -/
theorem rf_run_bad {σ : St} {m : Nat} {c : Rct} {s : Rst} {dn : Nat} (h : RC σ m c s) (hc : c.2.2 = dn) (h0 : Fi σ m 0 (nI 0)) (h25 : Fi σ m 25 (nI (dn + 1))) (h9 : Fi σ m 9 (iz (-1))) (h8 : Fi σ m 8 (nI 0)) (hb : 600 ≤ c.1 ∧ c.1 ≤ 12600 ∧ c.2.1 ≤ 12000 ∧ c.2.2 ≤ 600) :
    Hx (fX12_run_146 σ m (nI c.2.1) (nI c.1) (nI 0)) (fun σ' v => rfE m σ σ' ∧ v = nI 0 ∧ Fi σ' m 0 (nI 2) ∧ RI σ' m c ([], -1, s.2.2)) := by
  refine (rf_146_0 h.1 h0 h25).mo (fun σ' v g => ?_)
  obtain ⟨g1, g2, g3, g4, g5, g6⟩ := g
  have hK : Kp m c.1 c.2.1 c.2.2 σ σ' := Kp.of g2 (by decide) (fun _ _ _ z => z)
  exact ⟨g2.1, g1, g3, (h.keep g2 hK ⟨by decide, by decide⟩ (fun _ _ _ z => z)).done (RTx.nil (h8.keep g2 (by decide))) (h9.keep g2 (by decide)) g5 g4 (by rw [hc]; exact g6) hb⟩
/-- a line that can't be read -/
theorem rf_run_err {σ : St} {m p : Nat} {c : Rct} {s : Rst} (h : RC σ m c s) (h0 : Fi σ m 0 (nI 0)) (h25 : Fi σ m 25 (nI c.2.2)) (hb : 600 ≤ c.1 ∧ c.1 ≤ 12600 ∧ c.2.1 ≤ 12000 ∧ c.2.2 ≤ 600) :
    Hx (fX12_run_33 σ m (nI c.2.1) (nI c.1) (nI 0) m (nI p)) (fun σ' v => rfE m σ σ' ∧ v = nI 0 ∧ Fi σ' m 0 (nI 1) ∧ RI σ' m c ([], (p : Nat), s.2.2)) := by
  have hm := h.1
  obtain ⟨σa, ea⟩ : ∃ s, s = wI σ (fid 16 9) m (nI p) := ⟨_, rfl⟩
  have wa : rfM m [0, 5, 8, 9, 21] [] nV σ σa := by rw [ea]; exact rfM.wI (by simp)
  have hma := wa.ms hm
  obtain ⟨σb, eb⟩ : ∃ s, s = wI σa (fid 16 8) m (nI 0) := ⟨_, rfl⟩
  have wb : rfM m [0, 5, 8, 9, 21] [] nV σa σb := by rw [eb]; exact rfM.wI (by simp)
  have hmb := wb.ms hma
  obtain ⟨σc, ec⟩ : ∃ s, s = wI σb (fid 16 21) m (nI c.2.1) := ⟨_, rfl⟩
  have wc : rfM m [0, 5, 8, 9, 21] [] nV σb σc := by rw [ec]; exact rfM.wI (by simp)
  have hmc := wc.ms hmb
  obtain ⟨σd, ed⟩ : ∃ s, s = wI σc (fid 16 5) m (nI c.1) := ⟨_, rfl⟩
  have wd : rfM m [0, 5, 8, 9, 21] [] nV σc σd := by rw [ed]; exact rfM.wI (by simp)
  have hmd := wd.ms hmc
  have d9 : Fi σd m 9 (nI p) := by rw [ed, ec, eb, ea]; exact fi_wn (fi_wn (fi_wn fi_wI (by decide)) (by decide)) (by decide)
  have d8 : Fi σd m 8 (nI 0) := by rw [ed, ec, eb]; exact fi_wn (fi_wn fi_wI (by decide)) (by decide)
  have d21 : Fi σd m 21 (nI c.2.1) := by rw [ed, ec]; exact fi_wn fi_wI (by decide)
  have d5 : Fi σd m 5 (nI c.1) := by rw [ed]; exact fi_wI
  have d0 : Fi σd m 0 (nI 0) := by rw [ed, ec, eb, ea]; exact fi_wn (fi_wn (fi_wn (fi_wn h0 (by decide)) (by decide)) (by decide)) (by decide)
  have all := wa.tr (wb.tr (wc.tr wd))
  rw [n_fX12_run_33, rf_pI hm, ← ea]
  refine hx_bs ?_
  rw [rf_pI hma, ← eb]
  refine hx_bs ?_
  refine Hx.ce rfl (fun _ => ?_) (fun z => absurd rfl z)
  rw [rf_pI hmb, ← ec]
  refine hx_bs ?_
  rw [rf_pI hmc, ← ed]
  refine hx_bs ?_
  rw [n_fX12_run_55, rf_ck hmd]
  refine hx_bs ?_
  refine Hx.bd (rf_fails0 hmd d0 (show 0 < 1 by omega) (by omega)) (fun σ1 v g => ?_)
  obtain ⟨rfl, g1, g2⟩ := g
  refine Hx.ce (sm_eq (show 1 < 2147483648 by omega) (by omega)) (fun z => absurd z (by omega)) (fun _ => ?_)
  have al2 := all.tr (g1.mo ⟨by decide, fun _ q => q⟩ (fun _ q => q))
  have hK : Kp m c.1 c.2.1 c.2.2 σ σ1 := Kp.of al2 (by decide) (fun _ _ _ z => z)
  refine Hx.ret ⟨al2.1, rfl, g2, (h.keep al2 hK ⟨by decide, by decide⟩ (fun _ _ _ z => z)).done (RTx.nil (d8.keep g1 (by decide))) ?_ (d5.keep g1 (by decide)) (d21.keep g1 (by decide)) (h25.keep al2 (by decide)) hb⟩
  rw [← sm_iz]
  exact d9.keep g1 (by decide)
