/-! ===== the reference reads the head ===== -/
theorem Ntk.ex (t : List Nat) : ∃ n, Ntk t n := by
  have key : ∀ d, (∀ j, j < d → gon (tk t j)) ∨ ∃ n, Ntk t n := by
    intro d
    induction d with
    | zero => exact Or.inl (fun j hj => absurd hj (Nat.not_lt_zero _))
    | succ d ih =>
      rcases ih with ih | ih
      · by_cases c : gon (tk t d)
        · refine Or.inl (fun j hj => ?_)
          by_cases e : j = d
          · rw [e]; exact c
          · exact ih j (by omega)
        · exact Or.inr ⟨d + 1, by omega, fun j hj => ih j (by omega), by rw [Nat.add_sub_cancel]; exact c⟩
      · exact Or.inr ih
  rcases key (t.length + 1) with h | h
  · have h1 := tkp_i (t.length + 1) h
    have h2 := tkp_le (t := t) (t.length + 1)
    omega
  · exact h
theorem tkR_3 {k : Nat} (hk : k ≤ 94) : (nI (tkR k) = nI 3) = (k = 1) := by
  have h5 : tkR k < 5 := by unfold tkR; repeat' split
                            all_goals omega
  rw [sm_eq (by omega) (by omega)]
  unfold tkR
  apply propext
  constructor
  · intro h
    apply Classical.byContradiction
    intro q
    rw [if_neg q] at h
    split at h
    · cases h
    split at h
    · cases h
    split at h <;> cases h
  · rintro rfl; rfl
/-- the next token -/
theorem rt_next {σ : St} {m i : Nat} {t : List Nat} (hm : MS σ m) (h : RTx σ m t) (h13 : Fi σ m 13 (nI (tkp t i))) : Hx (fX12_reads σ m) (fun σ' _ => rfM m FT [] nV σ σ' ∧ RTx σ' m t ∧ MS σ' m ∧ TkN σ' m t (tk t i) ∧ (gon (tk t i) → Fi σ' m 13 (nI (tkp t (i + 1))))) :=
  Hx.mo (rt_reads hm h (tkp_le i) h13) (fun σ' _ g => ⟨g.1, h.keep g.1 (by decide) (by decide), g.1.ms hm, g.2, fun q => g.2.2.2.2.2.1 q⟩)
abbrev FH : List Nat := [10, 11, 12, 13, 14, 15, 16, 32, 33, 34, 35]
def Tel (m : Nat) (t : List Nat) (σ0 σ' : St) (v : Int32) : Prop := rfM m FH [] nV σ0 σ' ∧ ((v = nI 0 ∧ frm t = 0) ∨ (v = nI 1 ∧ frm t ≠ 0 ∧ Fi σ' m 32 (nI (frm t)) ∧ Fi σ' m 33 (nI (tk t 0).2.1) ∧ Fi σ' m 34 (nI (tk t 0).2.2.1) ∧ (frm t = 1 → Fi σ' m 35 (nI 0)) ∧ ∀ a, frm t = 2 → pml t 300 2 = some a → ∃ c, a = 2 + 2 * c ∧ Fi σ' m 35 (nI (c + 1))))
theorem rfM.FT {m : Nat} {σ σ' : St} (h : rfM m FT [] nV σ σ') : rfM m FH [] nV σ σ' := h.mo ⟨by decide, fun _ q => q⟩ (fun _ q => q)
theorem rh_76 {m n : Nat} {t : List Nat} {σ0 : St} (hn : Ntk t n) (h01 : (tk t 0).1 = 1) (h140 : (tk t 1).1 = 40) : ∀ (f c k : Nat) (σ : St), n - (2 + 2 * c) < f → 2 + 2 * c < n → n - (2 + 2 * c) < k → pml t k (2 + 2 * c) = pml t 300 2 → MS σ m → RTx σ m t → rfM m FH [] nV σ0 σ → Fi σ m 13 (nI (tkp t (2 + 2 * c))) → Fi σ m 35 (nI c) → Fi σ m 32 (nI 2) → Fi σ m 33 (nI (tk t 0).2.1) → Fi σ m 34 (nI (tk t 0).2.2.1) →
    Hx (fX12_isTelling_76 f σ m) (Tel m t σ0) := by
  intro f
  induction f with
  | zero => intro c k σ h; omega
  | succ f ih =>
    intro c k σ hf hi hk hp hm h hR h13 h35 h32 h33 h34
    obtain ⟨k, rfl⟩ : ∃ j, k = j + 1 := ⟨k - 1, by omega⟩
    have hl := h.1.2
    have hnl := hn.le
    rw [pml_s] at hp
    have hfr : ∀ v, pml t 300 2 = v → frm t = if v.isSome then 2 else 0 := by
      intro v hv
      unfold frm
      rw [if_neg (fun q => q h01), if_neg (by omega), if_neg (fun q => q h140), hv]
    have b0 := (tk_b (t := t) (2 + 2 * c)).2.2.2.2.1
    have b1 := (tk_b (t := t) (2 + 2 * c + 1)).2.2.2.2.1
    have b2 := (tk_b (t := t) (2 + 2 * c + 2)).2.2.2.2.1
    rw [n_fX12_isTelling_76, rf_ck hm]
    refine hx_bs ?_
    refine Hx.bd (rt_next hm h h13) (fun σ1 _ h1 => ?_)
    obtain ⟨r1, t1, m1, k1, a1⟩ := h1
    have g35 := h35.keep r1 (by decide)
    have g32 := h32.keep r1 (by decide)
    have g33 := h33.keep r1 (by decide)
    have g34 := h34.keep r1 (by decide)
    rw [fi_g m1 k1.1]
    refine hx_bs (Hx.ce (tkR_3 b0) (fun c1 => ?_) (fun c1 => ?_))
    · rw [if_neg (fun q => q c1)] at hp
      have hg : gon (tk t (2 + 2 * c)) := ⟨by omega, by omega⟩
      have hi1 := hn.nx hi hg
      rw [fi_g m1 g35]
      refine hx_bs ?_
      rw [sm_add, rf_pI m1]
      refine hx_bs ?_
      rw [rf_ck (ms_wI m1)]
      refine hx_bs ?_
      have hR1 := (hR.tr r1.FT).tr (rfM.wI (f := 35) (v := nI (c + 1)) (F := FH) (A := []) (V := nV) (by decide))
      have x32 : Fi (wI σ1 (fid 16 35) m (nI (c + 1))) m 32 (nI 2) := fi_wn g32 (by decide)
      have x33 : Fi (wI σ1 (fid 16 35) m (nI (c + 1))) m 33 (nI (tk t 0).2.1) := fi_wn g33 (by decide)
      have x34 : Fi (wI σ1 (fid 16 35) m (nI (c + 1))) m 34 (nI (tk t 0).2.2.1) := fi_wn g34 (by decide)
      have x35 : Fi (wI σ1 (fid 16 35) m (nI (c + 1))) m 35 (nI (c + 1)) := fi_wI
      refine Hx.bd (rt_next (ms_wI m1) (t1.keep (rfM.wI (F := FH) (A := []) (V := nV) (f := 35) (by decide)) (by decide) (by decide)) (fi_wn (a1 hg) (by decide))) (fun σ2 _ h2 => ?_)
      obtain ⟨r2, t2, m2, k2, a2⟩ := h2
      have hR2 := hR1.tr r2.FT
      rw [rf_ck m2]
      refine hx_bs ?_
      rw [rt_isNow m2 k2 b1 (by omega) (by omega)]
      refine hx_cs (Hx.ce nb0 (fun c2 => ?_) (fun c2 => ?_))
      · rw [if_neg c2] at hp
        rw [rf_ck m2]
        refine hx_bs ?_
        rw [rt_isNow m2 k2 b1 (by omega) (by omega)]
        refine hx_cs (Hx.ce nb0 (fun c3 => ?_) (fun c3 => ?_))
        · rw [if_neg (fun q => c3 q.1)] at hp
          exact Hx.ret ⟨hR2, Or.inl ⟨rfl, by rw [hfr _ hp.symm]; rfl⟩⟩
        · have c3 := Classical.not_not.mp c3
          have hi2 := hn.nx hi1 ⟨by omega, by omega⟩
          rw [rf_ck m2]
          refine hx_bs ?_
          refine Hx.bd (rt_next m2 t2 (a2 ⟨by omega, by omega⟩)) (fun σ3 _ h3 => ?_)
          obtain ⟨r3, t3, m3, k3, a3⟩ := h3
          have hR3 := hR2.tr r3.FT
          rw [rf_ck m3]
          refine hx_bs ?_
          rw [rt_isNow m3 k3 b2 (by omega) (by omega)]
          by_cases c4 : (tk t (2 + 2 * c + 2)).1 = 61
          · have c4' : (tk t (2 + 2 * c + 1 + 1)).1 = 61 := c4
            rw [if_pos c4']
            refine hx_cs ?_
            rw [ckZ1]
            rw [if_pos ⟨c3, c4⟩] at hp
            have e2 : frm t = 2 := by rw [hfr _ hp.symm]; rfl
            refine hx_bs (Hx.ret ⟨hR3, Or.inr ⟨rfl, by omega, ?_, ?_, ?_, fun q => by omega, fun a _ ha => ?_⟩⟩)
            · rw [e2]; exact (x32.keep r2 (by decide)).keep r3 (by decide)
            · exact (x33.keep r2 (by decide)).keep r3 (by decide)
            · exact (x34.keep r2 (by decide)).keep r3 (by decide)
            · rw [ha] at hp
              exact ⟨c, (Option.some.inj hp).symm, (x35.keep r2 (by decide)).keep r3 (by decide)⟩
          · have c4' : ¬ (tk t (2 + 2 * c + 1 + 1)).1 = 61 := c4
            rw [if_neg c4']
            refine hx_cs ?_
            rw [ckZ0]
            rw [if_neg (fun q => c4 q.2)] at hp
            exact hx_bs (Hx.ret ⟨hR3, Or.inl ⟨rfl, by rw [hfr _ hp.symm]; rfl⟩⟩)
      · have c2 := Classical.not_not.mp c2
        rw [if_pos c2] at hp
        have hi2 := hn.nx hi1 ⟨by omega, by omega⟩
        refine ih (c + 1) k σ2 (by omega) (by omega) (by omega) ?_ m2 t2 hR2 ?_ (x35.keep r2 (by decide)) (x32.keep r2 (by decide)) (x33.keep r2 (by decide)) (x34.keep r2 (by decide))
        · rw [show 2 + 2 * (c + 1) = 2 + 2 * c + 2 by omega]; exact hp
        · have := a2 ⟨by omega, by omega⟩
          rw [show 2 + 2 * (c + 1) = 2 + 2 * c + 1 + 1 by omega]
          exact this
    · rw [if_pos c1] at hp
      exact Hx.ret ⟨hR.tr r1.FT, Or.inl ⟨rfl, by rw [hfr _ hp.symm]; rfl⟩⟩
theorem rh_isTelling {σ : St} {m : Nat} {t : List Nat} (hm : MS σ m) (h : RTx σ m t) : Hx (fX12_isTelling σ m) (Tel m t σ) := by
  obtain ⟨n, hn⟩ := Ntk.ex t
  have hl := h.1.2
  have hnl := hn.le
  have b0 := (tk_b (t := t) 0).2.2.2.2.1
  have b1 := (tk_b (t := t) 1).2.2.2.2.1
  rw [n_fX12_isTelling, rf_pI hm]
  refine hx_bs ?_
  rw [rf_ck (ms_wI hm)]
  refine hx_bs ?_
  have hR0 : rfM m FH [] nV σ (wI σ (fid 16 13) m (nI 0)) := rfM.wI (by decide)
  refine Hx.bd (rt_next (i := 0) (ms_wI hm) (h.keep hR0 (by decide) (by decide)) fi_wI) (fun σ1 _ h1 => ?_)
  obtain ⟨r1, t1, m1, k1, a1⟩ := h1
  have hR1 := hR0.tr r1.FT
  rw [fi_g m1 k1.1]
  refine hx_bs (Hx.ce (tkR_3 b0) (fun c1 => ?_) (fun c1 => ?_))
  · have hg : gon (tk t 0) := ⟨by omega, by omega⟩
    have hi1 : 1 < n := hn.nx hn.1 hg
    rw [fi_g m1 (k1.2.2.1 c1)]
    refine hx_bs ?_
    rw [rf_pI m1]
    refine hx_bs ?_
    rw [fi_g (ms_wI m1) (fi_wn k1.2.1 (by decide))]
    refine hx_bs ?_
    rw [rf_pI (ms_wI m1)]
    refine hx_bs ?_
    rw [rf_pI (ms_wI (ms_wI m1))]
    refine hx_bs ?_
    rw [rf_pI (ms_wI (ms_wI (ms_wI m1)))]
    refine hx_bs ?_
    have hR2 : rfM m FH [] nV σ1 (wI (wI (wI (wI σ1 (fid 16 33) m (nI (tk t 0).2.1)) (fid 16 34) m (nI (tk t 0).2.2.1)) (fid 16 35) m (nI 0)) (fid 16 32) m (nI 1)) := (((rfM.wI (by decide)).tr (rfM.wI (by decide))).tr (rfM.wI (by decide))).tr (rfM.wI (by decide))
    have x33 : Fi (wI (wI (wI (wI σ1 (fid 16 33) m (nI (tk t 0).2.1)) (fid 16 34) m (nI (tk t 0).2.2.1)) (fid 16 35) m (nI 0)) (fid 16 32) m (nI 1)) m 33 (nI (tk t 0).2.1) := fi_wn (fi_wn (fi_wn fi_wI (by decide)) (by decide)) (by decide)
    have x34 : Fi (wI (wI (wI (wI σ1 (fid 16 33) m (nI (tk t 0).2.1)) (fid 16 34) m (nI (tk t 0).2.2.1)) (fid 16 35) m (nI 0)) (fid 16 32) m (nI 1)) m 34 (nI (tk t 0).2.2.1) := fi_wn (fi_wn fi_wI (by decide)) (by decide)
    have x35 : Fi (wI (wI (wI (wI σ1 (fid 16 33) m (nI (tk t 0).2.1)) (fid 16 34) m (nI (tk t 0).2.2.1)) (fid 16 35) m (nI 0)) (fid 16 32) m (nI 1)) m 35 (nI 0) := fi_wn fi_wI (by decide)
    have x32 : Fi (wI (wI (wI (wI σ1 (fid 16 33) m (nI (tk t 0).2.1)) (fid 16 34) m (nI (tk t 0).2.2.1)) (fid 16 35) m (nI 0)) (fid 16 32) m (nI 1)) m 32 (nI 1) := fi_wI
    have x13 : Fi (wI (wI (wI (wI σ1 (fid 16 33) m (nI (tk t 0).2.1)) (fid 16 34) m (nI (tk t 0).2.2.1)) (fid 16 35) m (nI 0)) (fid 16 32) m (nI 1)) m 13 (nI (tkp t (0 + 1))) := fi_wn (fi_wn (fi_wn (fi_wn (a1 hg) (by decide)) (by decide)) (by decide)) (by decide)
    have xt := t1.keep hR2 (by decide) (by decide)
    have xm : MS (wI (wI (wI (wI σ1 (fid 16 33) m (nI (tk t 0).2.1)) (fid 16 34) m (nI (tk t 0).2.2.1)) (fid 16 35) m (nI 0)) (fid 16 32) m (nI 1)) m := m1
    have hR3 := hR1.tr hR2
    generalize wI (wI (wI (wI σ1 (fid 16 33) m (nI (tk t 0).2.1)) (fid 16 34) m (nI (tk t 0).2.2.1)) (fid 16 35) m (nI 0)) (fid 16 32) m (nI 1) = σ2 at *
    rw [rf_ck xm]
    refine hx_bs ?_
    refine Hx.bd (rt_next (i := 1) xm xt x13) (fun σ3 _ h3 => ?_)
    obtain ⟨r3, t3, m3, k3, a3⟩ := h3
    have hR4 := hR3.tr r3.FT
    have y32 := x32.keep r3 (by decide)
    have y33 := x33.keep r3 (by decide)
    have y34 := x34.keep r3 (by decide)
    have y35 := x35.keep r3 (by decide)
    rw [rf_ck m3]
    refine hx_bs ?_
    rw [rt_isNow m3 k3 b1 (by omega) (by omega)]
    refine hx_cs (Hx.ce nb0 (fun c2 => ?_) (fun c2 => ?_))
    · rw [rf_ck m3]
      refine hx_bs ?_
      rw [rt_isNow m3 k3 b1 (by omega) (by omega)]
      refine hx_cs (Hx.ce nb0 (fun c3 => ?_) (fun c3 => ?_))
      · refine Hx.ret ⟨hR4, Or.inl ⟨rfl, ?_⟩⟩
        unfold frm
        rw [if_neg (fun q => q c1), if_neg c2, if_pos c3]
      · have c3 := Classical.not_not.mp c3
        have hi2 : 2 < n := hn.nx hi1 ⟨by omega, by omega⟩
        rw [rf_pI m3]
        refine hx_bs ?_
        exact rh_76 hn c1 c3 FU 0 300 _ (by show n - (2 + 2 * 0) < 4294967296; omega) (by omega) (by omega) rfl (ms_wI m3) (t3.keep (rfM.wI (F := FH) (A := []) (V := nV) (f := 32) (by decide)) (by decide) (by decide)) (hR4.tr (rfM.wI (by decide))) (fi_wn (a3 ⟨by omega, by omega⟩) (by decide)) (fi_wn y35 (by decide)) fi_wI (fi_wn y33 (by decide)) (fi_wn y34 (by decide))
    · have c2 := Classical.not_not.mp c2
      have e1 : frm t = 1 := by
        unfold frm
        rw [if_neg (fun q => q c1), if_pos c2]
      exact Hx.ret ⟨hR4, Or.inr ⟨rfl, by omega, by rw [e1]; exact y32, y33, y34, fun _ => y35, fun a q => by omega⟩⟩
  · refine Hx.ret ⟨hR1, Or.inl ⟨rfl, ?_⟩⟩
    unfold frm
    rw [if_pos c1]
/-- the parameters of the reference -/
def RPm (σ : St) (m : Nat) (ps : List Nat) : Prop := ∀ k w, ps[k]? = some w → sA σ (m + 17) k = nI w ∧ w < 2147483648
theorem RPm.keep {σ σ' : St} {m : Nat} {ps : List Nat} {F A : List Nat} {V : Nat → Prop} (h : RPm σ m ps) (hR : rfM m F A V σ σ') (hA : 17 ∉ A) : RPm σ' m ps := fun k w hk => by rw [hR.ar 17 ⟨hA, by omega, by omega⟩]; exact h k w hk
def Hdo (m : Nat) (t : List Nat) (σ0 σ' : St) (v : Int32) : Prop := rfM m FT [17] nV σ0 σ' ∧ match hdf t with
  | .inl i => v = nI 0 ∧ TkN σ' m t (tk t i)
  | .inr (i, ps) => v = nI 1 ∧ TkN σ' m t (tk t i) ∧ (gon (tk t i) → Fi σ' m 13 (nI (tkp t (i + 1)))) ∧ RPm σ' m ps ∧ ps.length ≤ 4
theorem rh_44 {σ : St} {m w c : Nat} {ps : List Nat} {k15 : St → Nat → Int32 → Option (St × Int32)} {Q : St → Int32 → Prop} (hm : MS σ m) (hp : RPm σ m ps) (hps : ps.length = c) (hc : c < 4) (hw : w < 2147483648) (h12 : Fi σ m 12 (nI w)) (hno : fix ps w ≠ none → Q σ (nI 0)) (hyes : fix ps w = none → Hx (Option.bind (stI σ (m + 17) (nI c) (nI w)) fun σ4 => Option.bind (ckK σ4 17 m) fun _ => cb (fX12_reads σ4 m) fun σ5 v6 => nm (nI c + (nI 1)) fun v8 => k15 σ5 m v8) Q) :
    ∀ (f k : Nat), c - k < f → k ≤ c → (∀ j, j < k → ps[j]? ≠ some w) → Hx (fX12_readsHead_44 k15 f σ m (nI c) (nI k)) Q := by
  intro f
  induction f with
  | zero => intro k h; omega
  | succ f ih =>
    intro k hf hk hj
    rw [n_fX12_readsHead_44]
    refine Hx.ce (sm_le (by omega) (by omega)) (fun d => ?_) (fun d => ?_)
    · rw [rf_parameter hm]
      refine hx_bs ?_
      rw [fi_g hm h12]
      refine hx_bs ?_
      exact hyes (fix_no (fun j hj2 => hj j (by omega)))
    · rw [rf_parameter hm]
      refine hx_bs ?_
      have hg := List.getElem?_eq_getElem (show k < ps.length by omega)
      obtain ⟨g1, g2⟩ := hp k _ hg
      rw [ld_parameter hm (by omega), g1]
      refine hx_bs ?_
      rw [fi_g hm h12]
      refine hx_bs (Hx.ce (sm_eq g2 hw) (fun e => ?_) (fun e => ?_))
      · refine Hx.ret (hno (fun q => ?_))
        rw [fix_first (k := k) (by rw [hg, e]) hj] at q
        cases q
      · refine hx_nm ?_
        rw [sm_add]
        refine ih (k + 1) (by omega) (by omega) (fun j hj2 => ?_)
        by_cases ej : j = k
        · subst ej; rw [hg]; exact fun q => e (Option.some.inj q)
        · exact hj j (by omega)
theorem rh_15 {m n a P : Nat} {t : List Nat} {σ0 : St} (hn : Ntk t n) (hP : a + 2 = 2 + 2 * P) (hf2 : frm t = 2) : ∀ (f r k : Nat) (ps : List Nat) (σ : St), 5 - ps.length < f → ps.length ≤ 4 → pml t r (2 + 2 * ps.length) = some a → 5 ≤ ps.length + k → hdp t k (2 + 2 * ps.length) ps = hdf t → 2 + 2 * ps.length < n → MS σ m → RTx σ m t → rfM m FT [17] nV σ0 σ → Fi σ m 13 (nI (tkp t (2 + 2 * ps.length))) → Fi σ m 32 (nI 2) → Fi σ m 35 (nI P) → RPm σ m ps →
    Hx (fX12_readsHead_15 f σ m (nI ps.length)) (Hdo m t σ0) := by
  intro f
  induction f with
  | zero => intro r k ps σ h; omega
  | succ f ih =>
    intro r k ps σ hf hps hpm hk hh hi hm h hR h13 h32 h35 hp
    obtain ⟨k, rfl⟩ : ∃ j, k = j + 1 := ⟨k - 1, by omega⟩
    obtain ⟨r, rfl⟩ : ∃ j, r = j + 1 := by
      cases r with
      | zero => cases hpm
      | succ r => exact ⟨r, rfl⟩
    have hl := h.1.2
    have hnl := hn.le
    rw [pml_s] at hpm
    have c1 : (tk t (2 + 2 * ps.length)).1 = 1 := by
      apply Classical.byContradiction
      intro q
      rw [if_pos q] at hpm
      cases hpm
    rw [if_neg (fun q => q c1)] at hpm
    have hg : gon (tk t (2 + 2 * ps.length)) := ⟨by omega, by omega⟩
    have hi1 := hn.nx hi hg
    have hw := (tk_b (t := t) (2 + 2 * ps.length)).2.2.2.1 c1
    have hw2 := hw.2
    -- a is not behind
    have hage : 2 + 2 * ps.length ≤ a := by
      have key : ∀ r i, pml t r i = some a → i ≤ a := by
        intro r
        induction r with
        | zero => intro i q; cases q
        | succ r ih2 =>
          intro i q
          rw [pml_s] at q
          split at q
          · cases q
          split at q
          · have := ih2 (i + 2) q; omega
          split at q
          · cases q; omega
          · cases q
      by_cases d : (tk t (2 + 2 * ps.length + 1)).1 = 44
      · rw [if_pos d] at hpm
        have := key r _ hpm
        omega
      · rw [if_neg d] at hpm
        split at hpm
        · cases hpm; omega
        · cases hpm
    rw [n_fX12_readsHead_15, fi_g hm h32]
    refine hx_bs (Hx.ce (sm_eq (by omega) (by omega)) (fun _ => ?_) (fun q => absurd rfl q))
    rw [fi_g hm h35]
    have hPb : P < 2147483648 := by
      apply Nat.lt_of_not_le
      intro q
      have key : ∀ r i, pml t r i = some a → i < n → a < n := by
        intro r
        induction r with
        | zero => intro i q; cases q
        | succ r ih2 =>
          intro i q hin
          rw [pml_s] at q
          split at q
          · cases q
          rename_i e1
          have e1 := Classical.not_not.mp e1
          have hin1 := hn.nx hin ⟨by omega, by omega⟩
          split at q
          · rename_i e2
            exact ih2 (i + 2) q (hn.nx hin1 ⟨by omega, by omega⟩)
          split at q
          · cases q; exact hin
          · cases q
      have := key (r + 1) (2 + 2 * ps.length) (by rw [pml_s, if_neg (fun q => q c1)]; exact hpm) hi
      omega
    refine hx_bs (Hx.ce (sm_le (by omega) (by omega)) (fun q => by omega) (fun _ => ?_))
    rw [rf_ck hm]
    refine hx_bs ?_
    refine Hx.bd (rt_next hm h h13) (fun σ1 _ h1 => ?_)
    obtain ⟨r1, t1, m1, k1, a1⟩ := h1
    have hR1 := hR.tr (r1.mo (F' := FT) (A' := [17]) ⟨fun _ q => q, fun _ q => by cases q⟩ (fun _ q => q))
    have g32 := h32.keep r1 (by decide)
    have g35 := h35.keep r1 (by decide)
    have gp := hp.keep r1 (by decide)
    have hh9 : (if 4 ≤ ps.length ∨ fix ps (tk t (2 + 2 * ps.length)).2.1 ≠ none then Sum.inl (2 + 2 * ps.length) else if (tk t (2 + 2 * ps.length + 1)).1 = 41 then .inr (2 + 2 * ps.length + 3, ps ++ [(tk t (2 + 2 * ps.length)).2.1]) else hdp t k (2 + 2 * ps.length + 2) (ps ++ [(tk t (2 + 2 * ps.length)).2.1])) = hdf t := hh
    refine Hx.ce (sm_eq (by omega) (by omega)) (fun c2 => ?_) (fun c2 => ?_)
    · rw [if_pos (Or.inl (by omega))] at hh9
      refine Hx.ret ⟨hR1, ?_⟩
      rw [← hh9]
      exact ⟨rfl, k1⟩
    · refine rh_44 m1 gp rfl (by omega) (by omega) (k1.2.2.1 c1) (fun q => ?_) (fun q => ?_) FU 0 (by show ps.length - 0 < 4294967296; omega) (by omega) (fun j hj => absurd hj (Nat.not_lt_zero _))
      · rw [if_pos (Or.inr q)] at hh9
        refine ⟨hR1, ?_⟩
        rw [← hh9]
        exact ⟨rfl, k1⟩
      · rw [if_neg (fun q2 => q2.elim (fun q3 => by omega) (fun q3 => q3 q))] at hh9
        rw [st_parameter m1 (by omega)]
        refine hx_bs ?_
        have hRw : rfM m FT [17] nV σ1 (wA σ1 (m + 17) ps.length (nI (tk t (2 + 2 * ps.length)).2.1)) := rfM.wA (by decide) (by omega)
        have mw := hRw.ms m1
        rw [rf_ck mw]
        refine hx_bs ?_
        refine Hx.bd (rt_next (i := 2 + 2 * ps.length + 1) mw (t1.keep hRw (by decide) (by decide)) ((a1 hg).keep (F := []) (A := [17]) (V := nV) (rfM.wA (by decide) (by omega)) (by decide))) (fun σ2 _ h2 => ?_)
        obtain ⟨r2, t2, m2, k2, a2⟩ := h2
        have hR2 := (hR1.tr hRw).tr (r2.mo (F' := FT) (A' := [17]) ⟨fun _ q => q, fun _ q => by cases q⟩ (fun _ q => q))
        have hp2 : RPm σ2 m (ps ++ [(tk t (2 + 2 * ps.length)).2.1]) := by
          refine RPm.keep ?_ r2 (by decide)
          intro j w hj
          by_cases e : j < ps.length
          · rw [List.getElem?_append_left e] at hj
            rw [sA_wA_j (by omega)]
            exact gp j w hj
          · have hjl := (List.getElem?_eq_some_iff.mp hj).1
            rw [List.length_append, List.length_singleton] at hjl
            obtain rfl : j = ps.length := by omega
            rw [List.getElem?_append_right (by omega), Nat.sub_self] at hj
            have hj9 : (tk t (2 + 2 * ps.length)).2.1 = w := Option.some.inj hj
            subst hj9
            exact ⟨sA_wA_eq, by omega⟩
        have g322 : Fi σ2 m 32 (nI 2) := (g32.keep (F := []) (A := [17]) (V := nV) (rfM.wA (by decide) (by omega)) (by decide)).keep r2 (by decide)
        have g352 : Fi σ2 m 35 (nI P) := (g35.keep (F := []) (A := [17]) (V := nV) (rfM.wA (by decide) (by omega)) (by decide)).keep r2 (by decide)
        have elen : (ps ++ [(tk t (2 + 2 * ps.length)).2.1]).length = ps.length + 1 := by rw [List.length_append, List.length_singleton]
        refine hx_nm ?_
        rw [sm_add, ← elen]
        by_cases d : (tk t (2 + 2 * ps.length + 1)).1 = 44
        · rw [if_pos d] at hpm
          rw [if_neg (by omega)] at hh9
          have hi2 := hn.nx hi1 ⟨by omega, by omega⟩
          have e9 : 2 + 2 * (ps ++ [(tk t (2 + 2 * ps.length)).2.1]).length = 2 + 2 * ps.length + 2 := by rw [elen]; omega
          refine ih r k (ps ++ [(tk t (2 + 2 * ps.length)).2.1]) σ2 (by rw [elen]; omega) (by rw [elen]; omega) (by rw [e9]; exact hpm) (by rw [elen]; omega) (by rw [e9]; exact hh9) (by rw [e9]; exact hi2) m2 t2 hR2 ?_ g322 g352 hp2
          rw [e9]
          exact a2 ⟨by omega, by omega⟩
        · rw [if_neg d] at hpm
          have d41 : (tk t (2 + 2 * ps.length + 1)).1 = 41 ∧ (tk t (2 + 2 * ps.length + 2)).1 = 61 := by
            apply Classical.byContradiction
            intro q
            rw [if_neg q] at hpm
            cases hpm
          rw [if_pos d41] at hpm
          rw [if_pos d41.1] at hh9
          have ea : a = 2 + 2 * ps.length := (Option.some.inj hpm).symm
          obtain ⟨f, rfl⟩ : ∃ g, f = g + 1 := ⟨f - 1, by omega⟩
          rw [n_fX12_readsHead_15, fi_g m2 g322]
          refine hx_bs (Hx.ce (sm_eq (by omega) (by omega)) (fun _ => ?_) (fun q => absurd rfl q))
          rw [fi_g m2 g352]
          refine hx_bs (Hx.ce (sm_le (by omega) (by omega)) (fun _ => ?_) (fun q => absurd q (by omega)))
          rw [n_fX12_readsHead_90, fi_g m2 g322]
          refine hx_bs (Hx.ce (sm_eq (by omega) (by omega)) (fun _ => ?_) (fun q => absurd rfl q))
          rw [rf_ck m2]
          refine hx_bs ?_
          refine Hx.bd (rt_next (i := 2 + 2 * ps.length + 2) m2 t2 (a2 ⟨by omega, by omega⟩)) (fun σ3 _ h3 => ?_)
          obtain ⟨r3, t3, m3, k3, a3⟩ := h3
          rw [n_fX12_readsHead_102, rf_ck m3]
          refine hx_bs ?_
          refine Hx.bd (rt_next (i := 2 + 2 * ps.length + 3) m3 t3 (a3 ⟨by omega, by omega⟩)) (fun σ4 _ h4 => ?_)
          obtain ⟨r4, t4, m4, k4, a4⟩ := h4
          refine Hx.ret ⟨(hR2.tr (r3.mo (F' := FT) (A' := [17]) ⟨fun _ q => q, fun _ q => by cases q⟩ (fun _ q => q))).tr (r4.mo (F' := FT) (A' := [17]) ⟨fun _ q => q, fun _ q => by cases q⟩ (fun _ q => q)), ?_⟩
          rw [← hh9]
          exact ⟨rfl, k4, a4, (hp2.keep r3 (by decide)).keep r4 (by decide), by rw [elen]; omega⟩
theorem rh_head {σ : St} {m : Nat} {t : List Nat} (hm : MS σ m) (h : RTx σ m t) (h0 : frm t ≠ 0) (h32 : Fi σ m 32 (nI (frm t))) (h35 : ∀ a, frm t = 2 → pml t 300 2 = some a → ∃ c, a = 2 + 2 * c ∧ Fi σ m 35 (nI (c + 1))) : Hx (fX12_readsHead σ m) (Hdo m t σ) := by
  obtain ⟨n, hn⟩ := Ntk.ex t
  have hfb := frm_b t
  have hl := h.1.2
  have c01 : (tk t 0).1 = 1 := by
    rcases Nat.lt_or_ge (frm t) 2 with q | q
    · exact (frm_1 (by omega)).1
    · exact (frm_2 (by omega)).1
  have c11 : (tk t 1).1 = 61 ∨ (tk t 1).1 = 40 := by
    rcases Nat.lt_or_ge (frm t) 2 with q | q
    · exact Or.inl (frm_1 (by omega)).2
    · exact Or.inr (frm_2 (by omega)).2.1
  have n1 : 1 < n := hn.nx hn.1 ⟨by omega, by omega⟩
  have n2 : 2 < n := hn.nx n1 ⟨by omega, by omega⟩
  rw [n_fX12_readsHead, rf_pI hm]
  refine hx_bs ?_
  rw [rf_ck (ms_wI hm)]
  refine hx_bs ?_
  have hR0 : rfM m FT [17] nV σ (wI σ (fid 16 13) m (nI 0)) := rfM.wI (by decide)
  refine Hx.bd (rt_next (i := 0) (ms_wI hm) (h.keep hR0 (by decide) (by decide)) fi_wI) (fun σ1 _ h1 => ?_)
  obtain ⟨r1, t1, m1, k1, a1⟩ := h1
  rw [rf_ck m1]
  refine hx_bs ?_
  refine Hx.bd (rt_next (i := 1) m1 t1 (a1 ⟨by omega, by omega⟩)) (fun σ2 _ h2 => ?_)
  obtain ⟨r2, t2, m2, k2, a2⟩ := h2
  have hR2 := (hR0.tr (r1.mo (F' := FT) (A' := [17]) ⟨fun _ q => q, fun _ q => by cases q⟩ (fun _ q => q))).tr (r2.mo (F' := FT) (A' := [17]) ⟨fun _ q => q, fun _ q => by cases q⟩ (fun _ q => q))
  have g32 : Fi σ2 m 32 (nI (frm t)) := ((fi_wn h32 (by decide)).keep r1 (by decide)).keep r2 (by decide)
  by_cases c : frm t = 2
  · obtain ⟨_, _, a, ha⟩ := frm_2 c
    obtain ⟨cc, e1, e2⟩ := h35 a c ha
    rw [c] at g32
    refine rh_15 (P := cc + 1) hn (by omega) c FU 300 5 [] σ2 (by decide) (by decide) ha (by decide) ?_ n2 m2 t2 hR2 (a2 ⟨by omega, by omega⟩) g32 (((fi_wn e2 (by decide)).keep r1 (by decide)).keep r2 (by decide)) (fun k w hk => by cases hk)
    unfold hdf
    rw [if_neg h0, if_neg (by omega)]
    rfl
  · have c1 : frm t = 1 := by omega
    rw [show FU = 4294967295 + 1 from rfl, n_fX12_readsHead_15, fi_g m2 g32]
    refine hx_bs (Hx.ce (sm_eq (by omega) (by omega)) (fun q => absurd q c) (fun _ => ?_))
    rw [n_fX12_readsHead_90, fi_g m2 g32]
    refine hx_bs (Hx.ce (sm_eq (by omega) (by omega)) (fun q => absurd q c) (fun _ => ?_))
    rw [n_fX12_readsHead_102, rf_ck m2]
    refine hx_bs ?_
    refine Hx.bd (rt_next (i := 2) m2 t2 (a2 ⟨by omega, by omega⟩)) (fun σ3 _ h3 => ?_)
    obtain ⟨r3, t3, m3, k3, a3⟩ := h3
    refine Hx.ret ⟨hR2.tr (r3.mo (F' := FT) (A' := [17]) ⟨fun _ q => q, fun _ q => by cases q⟩ (fun _ q => q)), ?_⟩
    have e9 : hdf t = .inr (2, []) := by
      unfold hdf
      rw [if_neg h0, if_pos c1]
    rw [e9]
    exact ⟨rfl, k3, a3, fun k w hk => (by cases hk), Nat.zero_le _⟩
