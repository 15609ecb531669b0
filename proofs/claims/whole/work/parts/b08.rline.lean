/-! ===== the reference reads an operand, and closes ===== -/
theorem stl1_top : ∀ {S : List Wt} {L : List It} {w : Wt} {S' : List Wt} {L' : List It}, stl 1 S L = (w :: S', L') → w.1 = 40 := by
  intro S
  induction S with
  | nil => intro L w S' L' h; cases h
  | cons v S ih =>
    intro L w S' L' h
    have h9 : (if v.1 ≠ 40 ∧ 1 ≤ rk v.1 then stl 1 S (L ++ [emw v]) else (v :: S, L)) = (w :: S', L') := h
    split at h9
    · exact ih h9
    · rename_i c
      cases h9
      apply Classical.byContradiction
      intro q
      exact c ⟨q, (rk_b _).1⟩
theorem stl_len {r : Nat} : ∀ (S : List Wt) (L : List It), (stl r S L).1.length + (stl r S L).2.length = S.length + L.length := by
  intro S
  induction S with
  | nil => intro L; rfl
  | cons v S ih =>
    intro L
    have e : stl r (v :: S) L = (if v.1 ≠ 40 ∧ r ≤ rk v.1 then stl r S (L ++ [emw v]) else (v :: S, L)) := rfl
    rw [e]
    split
    · rw [ih, List.length_append, List.length_singleton, List.length_cons]; omega
    · rfl
theorem stl_mem {r : Nat} : ∀ {S : List Wt} {L : List It} {w : Wt}, w ∈ (stl r S L).1 → w ∈ S := by
  intro S
  induction S with
  | nil => intro L w h; exact h
  | cons v S ih =>
    intro L w h
    have e : stl r (v :: S) L = (if v.1 ≠ 40 ∧ r ≤ rk v.1 then stl r S (L ++ [emw v]) else (v :: S, L)) := rfl
    rw [e] at h
    split at h
    · exact List.mem_cons_of_mem _ (ih h)
    · exact h
theorem ry_closes {σ : St} {m vm k0 : Nat} {S : List Wt} {L : List It} (hm : MS σ m) (hY : Yd σ m vm k0 S L) : Hx (fX12_closes σ m) (fun σ' v => Yr m k0 σ σ' ∧ (((stl 1 S L).1 = [] ∧ v = nI 0) ∨ ∃ w S', (stl 1 S L).1 = w :: S' ∧ v = nI 1 ∧ Yd σ' m vm k0 S' ((stl 1 S L).2 ++ cli w))) := by
  rw [n_fX12_closes, rf_ck hm]
  refine hx_bs ?_
  refine Hx.bd (ry_settles (show 1 ≤ 3 by omega) hm hY) (fun σ1 _ h => ?_)
  obtain ⟨q1, q2⟩ := h
  have hm1 := q1.1.ms hm
  cases e : stl 1 S L with
  | mk S1 L1 =>
  rw [e] at q2
  have q2 : Yd σ1 m vm k0 S1 L1 := q2
  obtain ⟨⟨y1, y2, y3⟩, ⟨y4, y5, y6⟩, y7⟩ := q2
  rw [fi_g hm1 y4]
  refine hx_bs (Hx.ce (sm_eq (by omega) (by omega)) (fun c => ?_) (fun c => ?_))
  · exact Hx.ret ⟨q1, Or.inl ⟨List.length_eq_zero_iff.mp c, rfl⟩⟩
  cases S1 with
  | nil => exact absurd rfl c
  | cons w S' =>
    have e40 := stl1_top e
    obtain ⟨⟨c1, c2, c3, c4⟩, ⟨k1, k2, k3, k4⟩, y1'⟩ := y1
    rw [List.length_cons] at y2 y3
    have le := opn_le S'
    have ow : opw w = 1 := by unfold opw; rw [if_pos (Or.inr (Or.inr e40))]
    rw [opn_cons, ow] at y5
    refine hx_bs ?_
    rw [List.length_cons, sm_sub (by omega), Nat.add_sub_cancel, rf_pI hm1]
    refine hx_bs ?_
    have rA : rfM m FW [] nV σ1 (wI σ1 (fid 16 30) m (nI S'.length)) := rfM.wI (by decide)
    have hmA := rA.ms hm1
    have x31 : Fi (wI σ1 (fid 16 30) m (nI S'.length)) m 31 (nI (1 + opn S')) := fi_wn y5 (by decide)
    rw [fi_g hmA x31]
    refine hx_bs ?_
    rw [sm_sub (by omega), Nat.add_sub_cancel_left, rf_pI hmA]
    refine hx_bs ?_
    obtain ⟨T, hT⟩ : ∃ T, T = wI (wI σ1 (fid 16 30) m (nI S'.length)) (fid 16 31) m (nI (opn S')) := ⟨_, rfl⟩
    have rT : rfM m FW [] nV σ1 T := by rw [hT]; exact rA.tr (rfM.wI (by decide))
    have hmT := rT.ms hm1
    have t30 : Fi T m 30 (nI S'.length) := by rw [hT]; exact fi_wn fi_wI (by decide)
    have t31 : Fi T m 31 (nI (opn S')) := by rw [hT]; exact fi_wI
    have t21 : Fi T m 21 (nI (k0 + L1.length)) := by rw [hT]; exact fi_wn (fi_wn y6 (by decide)) (by decide)
    have hA : sA T = sA σ1 := by rw [hT]; rfl
    have yT : WtC T m S' := y1'.keep rT (by decide)
    have iT : Its T m vm k0 L1 := y7.keepM rT (by decide) (fun _ _ _ q => q)
    have qT : Yr m k0 σ T := q1.tr ⟨rT.mo ⟨fun _ q => q, fun _ q => (by cases q)⟩ (fun _ q => q), Ol.of rT (by decide)⟩
    rw [← hT, rf_waitsWord hmT]
    refine hx_bs ?_
    rw [fi_g hmT t30]
    refine hx_bs ?_
    rw [ld_waitsWord hmT (by omega), hA, c3]
    refine hx_bs (Hx.ce (wwn_n k3) (fun d => ?_) (fun d => ?_))
    · have ec : cli w = [] := by unfold cli; rw [d]
      refine Hx.ret ⟨qT, Or.inr ⟨w, S', rfl, rfl, ?_⟩⟩
      show Yd T m vm k0 S' (L1 ++ cli w)
      rw [ec, List.append_nil]
      exact ⟨⟨yT, by omega, by omega⟩, ⟨t30, t31, t21⟩, iT⟩
    · obtain ⟨u, hu⟩ : ∃ u, w.2.2.1 = some u := by
        cases hw : w.2.2.1 with
        | none => exact absurd hw d
        | some u => exact ⟨u, rfl⟩
      have ec : cli w = [(33, u, w.2.2.2, w.2.1, q0)] := by unfold cli; rw [hu]
      have hwu : wwn w.2.2.1 = nI u := by rw [hu]; rfl
      rw [rf_waitsMany hmT]
      refine hx_bs ?_
      refine hx_bs ?_
      rw [ld_waitsMany hmT (by omega), hA, c4]
      refine hx_bs ?_
      rw [rf_waitsAt hmT]
      refine hx_bs ?_
      refine hx_bs ?_
      rw [ld_waitsAt hmT (by omega), hA, c2]
      refine hx_bs ?_
      rw [rf_ck hmT]
      refine hx_bs ?_
      rw [hwu]
      refine Hx.bd (ry_makes (it := (33, u, w.2.2.2, w.2.1, q0)) hmT iT t21 (by omega) ⟨rfl, rfl, rfl⟩ ⟨by omega, k3 u hu, by omega, by omega⟩ (fun q => absurd (show (33 : Nat) = 30 from q) (by decide)) (fun _ => rfl)) (fun σ2 _ h2 => ?_)
      obtain ⟨r1, r2, r3, r4⟩ := h2
      refine Hx.ret ⟨qT.tr ⟨r1.mo ⟨by decide, by decide⟩ (fun _ q => q), r2⟩, Or.inr ⟨w, S', rfl, rfl, ?_⟩⟩
      show Yd σ2 m vm k0 S' (L1 ++ cli w)
      rw [ec]
      refine ⟨⟨yT.keep r1 (by decide), by omega, ?_⟩, ⟨t30.keep r1 (by decide), t31.keep r1 (by decide), r3⟩, r4⟩
      rw [List.length_append, List.length_singleton]
      omega
/-- all that holds when token i is read -/
def PrS (σ : St) (m : Nat) (t ps : List Nat) (vm k0 v0 n : Nat) (S : List Wt) (L : List It) (i : Nat) : Prop := (MS σ m ∧ RTx σ m t ∧ RPf σ m ps ∧ Fi σ m 13 (nI (tkp t (i + 1))) ∧ Fi σ m 5 (nI vm)) ∧ Yd σ m vm k0 S L ∧ (i + 1 < n ∧ S.length + L.length ≤ i + 1 ∧ (∀ w ∈ S, w.2.2.2 ≤ i + 1) ∧ (600 ≤ vm ∧ v0 ≤ vm) ∧ vm ≤ v0 + (i + 1))
theorem PrS.go {σ σ0 : St} {m vm k0 v0 n i : Nat} {t ps : List Nat} {b : Bool} {S : List Wt} {L : List It} {β : Type} {k : St → Unit → Option (St × β)} {Q : St → β → Prop} (h : PrS σ m t ps vm k0 v0 n S L i) (hR : RY m k0 v0 σ0 σ)
    (hK : ∀ σ', RY m k0 v0 σ0 σ' → SyR σ' m t ps vm k0 v0 n (b, S, L, i + 1) → Hx (k σ' ()) Q) : Hx (cb (fX12_reads σ m) k) Q := by
  obtain ⟨⟨h1, h2, h3, h4, h5⟩, h6, h7⟩ := h
  exact ry_adv h1 h2 h3 h4 h5 h6 h7 (fun σ' r s => hK σ' (hR.tr (rf_fry r)) s)
def fxl (ps : List Nat) (w j : Nat) : Int32 := match fix ps w with
  | none => iz (-1)
  | some k => if k < j then nI k else iz (-1)
theorem nIm {k : Nat} (h : k < 2147483648) : (nI k = iz (-1)) = False := by
  refine propext ⟨fun q => ?_, fun q => q.elim⟩
  have e : (nI k).toInt = (iz (-1)).toInt := congrArg Int32.toInt q
  rw [sm_toInt h] at e
  have e2 : (iz (-1)).toInt = -1 := rfl
  rw [e2] at e
  omega
theorem ry_164 {σ : St} {m w p : Nat} {ps : List Nat} {Q : St → Int32 → Prop} (hl : ps.length ≤ 4) (hK : Hx (fX12_readsOperand_187 σ (nI p) m (nI (wdi ps w p).1) (nI (wdi ps w p).2.1)) Q) : Hx (fX12_readsOperand_164 σ m (nI w) (nI p) (fxl ps w ps.length)) Q := by
  rw [n_fX12_readsOperand_164]
  unfold fxl
  unfold wdi at hK
  cases e : fix ps w with
  | none =>
    rw [e] at hK
    refine Hx.ce rfl (fun _ => ?_) (fun c => absurd rfl c)
    rw [n_fX12_readsOperand_177]
    exact Hx.ce rfl (fun _ => hK) (fun c => absurd rfl c)
  | some k =>
    rw [e] at hK
    have hk := fix_lt e
    show Hx (if (if k < ps.length then nI k else iz (-1)) = iz (-1) then fX12_readsOperand_177 σ (nI w) (nI p) (if k < ps.length then nI k else iz (-1)) m (nI 31) else fX12_readsOperand_177 σ (nI w) (nI p) (if k < ps.length then nI k else iz (-1)) m (nI 32)) Q
    rw [if_pos hk]
    refine Hx.ce (nIm (by omega)) (fun c => c.elim) (fun _ => ?_)
    rw [n_fX12_readsOperand_177]
    exact Hx.ce (nIm (by omega)) (fun c => c.elim) (fun _ => hK)
theorem ry_123 {σ : St} {m w p : Nat} {ps : List Nat} {Q : St → Int32 → Prop} (hm : MS σ m) (hp : RPf σ m ps) (hw : w < 2147483648) (hK : Hx (fX12_readsOperand_187 σ (nI p) m (nI (wdi ps w p).1) (nI (wdi ps w p).2.1)) Q) : ∀ (n j : Nat), ps.length - j < n → j ≤ ps.length → Hx (fX12_readsOperand_123 n σ m (nI w) (nI p) (fxl ps w j) (nI j)) Q := by
  obtain ⟨⟨h1, h2⟩, h3, h4⟩ := hp
  have fin := ry_164 (σ := σ) (m := m) (w := w) (p := p) h2 hK
  intro n
  induction n with
  | zero => intro j h; omega
  | succ n ih =>
    intro j hn hj
    rw [n_fX12_readsOperand_123]
    rcases h4 with ⟨f32, f35⟩ | ⟨f, hf, f32, rfl⟩
    · rw [fi_g hm f35]
      refine hx_bs (Hx.ce (sm_le (by omega) (by omega)) (fun c => ?_) (fun c => ?_))
      · have ej : j = ps.length := by omega
        rw [ej]; exact fin
      · rw [fi_g hm f32]
        refine hx_bs (Hx.ce (sm_eq (by omega) (by omega)) (fun _ => ?_) (fun c => absurd rfl c))
        obtain ⟨u, hu⟩ : ∃ u, ps[j]? = some u := ⟨_, List.getElem?_eq_getElem (by omega)⟩
        obtain ⟨g1, g2⟩ := h1 j u hu
        rw [rf_parameter hm]
        refine hx_bs ?_
        rw [ld_parameter hm (by omega), g1]
        refine hx_bs (Hx.ce (sm_eq g2 hw) (fun c2 => ?_) (fun c2 => ?_))
        · rw [n_fX12_readsOperand_157, sm_add]
          refine hx_nm ?_
          have e : fxl ps w (j + 1) = nI j := by
            unfold fxl
            cases e : fix ps w with
            | none =>
              have := List.findIdx?_eq_none_iff.mp e u (List.mem_of_getElem? hu)
              simp [c2] at this
            | some k =>
              have ek : k = j := h3 k j w (fix_get e) (by rw [hu, c2])
              show (if k < j + 1 then nI k else iz (-1)) = nI j
              rw [if_pos (by omega), ek]
          rw [← e]
          exact ih (j + 1) (by omega) (by omega)
        · rw [n_fX12_readsOperand_157, sm_add]
          refine hx_nm ?_
          have e : fxl ps w (j + 1) = fxl ps w j := by
            unfold fxl
            cases e : fix ps w with
            | none => rfl
            | some k =>
              have g := fix_get e
              have ek : k ≠ j := by
                intro q
                rw [q, hu] at g
                exact c2 (Option.some.inj g)
              show (if k < j + 1 then nI k else iz (-1)) = if k < j then nI k else iz (-1)
              by_cases q : k < j
              · rw [if_pos q, if_pos (by omega)]
              · rw [if_neg q, if_neg (by omega)]
          rw [← e]
          exact ih (j + 1) (by omega) (by omega)
    · have e0 : j = 0 := by have : j ≤ 0 := hj; omega
      subst e0
      rw [rf_gI hm]
      refine hx_bs (Hx.cs (fun _ => fin) (fun _ => ?_))
      rw [fi_g hm f32]
      exact hx_bs (Hx.ce (sm_eq (by omega) (by omega)) (fun c => absurd c (by omega)) (fun _ => fin))
