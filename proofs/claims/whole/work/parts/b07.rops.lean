/-! ===== the reference reads an operand ===== -/
theorem tk_num {t : List Nat} {i : Nat} (h : (tk t i).1 = 2) : Nat9 t (tk t i).2.2.1 ∧ eN t (tk t i).2.2.1 = some (tk t i).2.2.2 := by
  have e : tk t i = lxs t (ew isS t (tkp t i)) := rfl
  rw [e] at h ⊢
  generalize ew isS t (tkp t i) = s at *
  unfold lxs at h ⊢
  by_cases c0 : t.length ≤ s
  · rw [if_pos c0] at h
    exact absurd (show (0 : Nat) = 2 from h) (by decide)
  rw [if_neg c0] at h ⊢
  by_cases c1 : isL (tb t s) = true
  · rw [if_pos c1] at h
    split at h
    · exact absurd (show (3 : Nat) = 2 from h) (by decide)
    · exact absurd (show (1 : Nat) = 2 from h) (by decide)
  rw [if_neg c1] at h ⊢
  by_cases c2 : isD (tb t s) = true
  · rw [if_pos c2] at h ⊢
    cases he : eN t s with
    | none => rw [he] at h; exact absurd (show (3 : Nat) = 2 from h) (by decide)
    | some e2 => exact ⟨⟨by show s < t.length; omega, c2, by show eN t s ≠ none; rw [he]; exact fun q => (by cases q)⟩, he⟩
  rw [if_neg c2] at h
  split at h
  · rename_i c3
    have := sgn_i.mp c3
    have e2 : tb t s = 2 := h
    unfold sgb at this
    omega
  · exact absurd (show (3 : Nat) = 2 from h) (by decide)
theorem tkR_b {k : Nat} : tkR k < 5 := by unfold tkR; repeat' split
                                          all_goals omega
theorem tkR_2 {k : Nat} : (nI (tkR k) = nI 2) = (k = 2) := by
  have h5 := tkR_b (k := k)
  rw [sm_eq (by omega) (by omega)]
  unfold tkR
  apply propext
  constructor
  · intro h
    repeat' split at h
    all_goals omega
  · rintro rfl; rfl
theorem tkR_0 {k : Nat} : (nI (tkR k) = nI 0) = (k = 0) := by
  have h5 := tkR_b (k := k)
  rw [sm_eq (by omega) (by omega)]
  unfold tkR
  apply propext
  constructor
  · intro h
    repeat' split at h
    all_goals omega
  · rintro rfl; rfl
theorem tkR_1 {k : Nat} : (nI (tkR k) = nI 1) = (3 < k) := by
  have h5 := tkR_b (k := k)
  rw [sm_eq (by omega) (by omega)]
  unfold tkR
  apply propext
  constructor
  · intro h
    repeat' split at h
    all_goals omega
  · intro h
    rw [if_neg (by omega), if_neg (by omega), if_neg (by omega), if_neg (by omega)]
theorem Kv.up {σ : St} {m vm vm' vi : Nat} {q : Qv} (h : Kv σ m vm vi q) (h1 : vm ≤ vm') (h2 : vm' ≤ 12600) : Kv σ m vm' vi q := ⟨⟨h.1.1, by have := h.1.2.1; omega, h2⟩, h.2⟩
theorem Its.up {σ : St} {m vm vm' k : Nat} {l : List It} (h : Its σ m vm k l) (h1 : vm ≤ vm') (h2 : vm' ≤ 12600) : Its σ m vm' k l := by
  refine ⟨h.1, fun j it e => ?_⟩
  obtain ⟨a0, a1, a2, a3⟩ := h.2 j it e
  exact ⟨a0, a1, fun q => by
    obtain ⟨vi, u1, u2⟩ := a2 q
    exact ⟨vi, u1, u2.up h1 h2⟩, a3⟩
/-- the parameters that the reader has -/
def RPf (σ : St) (m : Nat) (ps : List Nat) : Prop := (RPm σ m ps ∧ ps.length ≤ 4) ∧ (∀ j k w : Nat, ps[j]? = some w → ps[k]? = some w → j = k) ∧ ((Fi σ m 32 (nI 2) ∧ Fi σ m 35 (nI ps.length)) ∨ (∃ f, f < 2 ∧ Fi σ m 32 (nI f) ∧ ps = []))
theorem RPf.keep {σ σ' : St} {m : Nat} {ps : List Nat} {F A : List Nat} {V : Nat → Prop} (h : RPf σ m ps) (hR : rfM m F A V σ σ') (hA : 17 ∉ A) (hF : 32 ∉ F ∧ 35 ∉ F) : RPf σ' m ps := by
  obtain ⟨⟨h1, h2⟩, h3, h4⟩ := h
  refine ⟨⟨h1.keep hR hA, h2⟩, h3, ?_⟩
  rcases h4 with ⟨a, b⟩ | ⟨f, a, b, c⟩
  · exact Or.inl ⟨a.keep hR hF.1, b.keep hR hF.2⟩
  · exact Or.inr ⟨f, a, b.keep hR hF.1, c⟩
abbrev FY : List Nat := [5, 10, 11, 12, 13, 14, 15, 16, 21, 30, 31]
abbrev AY : List Nat := [1, 2, 6, 7, 8, 9, 13, 14, 15, 16]
def RY (m k0 v0 : Nat) (σ σ' : St) : Prop := rfM m FY AY (fun j => v0 ≤ j) σ σ' ∧ Ol m k0 σ σ'
theorem RY.rf {m k0 v0 : Nat} {σ : St} : RY m k0 v0 σ σ := ⟨rfM.rf, Ol.rf⟩
theorem RY.tr {m k0 v0 : Nat} {σ σ1 σ2 : St} (h1 : RY m k0 v0 σ σ1) (h2 : RY m k0 v0 σ1 σ2) : RY m k0 v0 σ σ2 := ⟨h1.1.tr h2.1, h1.2.tr h2.2⟩
theorem Yr.ry {m k0 v0 : Nat} {σ σ' : St} (h : Yr m k0 σ σ') : RY m k0 v0 σ σ' := ⟨h.1.mo ⟨by decide, by decide⟩ (fun _ q => q.elim), h.2⟩
theorem rf_fry {m k0 v0 : Nat} {σ σ' : St} (h : rfM m FT [] nV σ σ') : RY m k0 v0 σ σ' := ⟨h.mo ⟨by decide, by decide⟩ (fun _ q => q.elim), Ol.of h (by decide)⟩
/-- all that holds at token i -/
def SyR (σ : St) (m : Nat) (t ps : List Nat) (vm k0 v0 n : Nat) (s : Sy) : Prop := (MS σ m ∧ RTx σ m t ∧ RPf σ m ps ∧ TkN σ m t (tk t s.2.2.2) ∧ (gon (tk t s.2.2.2) → Fi σ m 13 (nI (tkp t (s.2.2.2 + 1)))) ∧ Fi σ m 5 (nI vm)) ∧ Yd σ m vm k0 s.2.1 s.2.2.1 ∧ (s.2.2.2 < n ∧ s.2.1.length + s.2.2.1.length ≤ s.2.2.2 ∧ (∀ w ∈ s.2.1, w.2.2.2 ≤ s.2.2.2) ∧ (600 ≤ vm ∧ v0 ≤ vm) ∧ vm ≤ v0 + s.2.2.2)
def StP (m : Nat) (t ps : List Nat) (k0 v0 n : Nat) (σ σ' : St) (v : Int32) (i : Nat) (e : Se) : Prop := RY m k0 v0 σ σ' ∧ match e with
  | .inl s => v = nI (if s.1 = true then 1 else 0) ∧ i < s.2.2.2 ∧ ∃ vm', SyR σ' m t ps vm' k0 v0 n s
  | .inr (.inl j) => v = iz (-1) ∧ MS σ' m ∧ TkN σ' m t (tk t j)
  | .inr (.inr _) => True
/-- the next token is read -/
theorem ry_adv {σ : St} {m vm k0 v0 n i : Nat} {t ps : List Nat} {b : Bool} {S : List Wt} {L : List It} {β : Type} {k : St → Unit → Option (St × β)} {Q : St → β → Prop} (hm : MS σ m) (ht : RTx σ m t) (hp : RPf σ m ps) (h13 : Fi σ m 13 (nI (tkp t (i + 1)))) (h5 : Fi σ m 5 (nI vm)) (hY : Yd σ m vm k0 S L) (hb : i + 1 < n ∧ S.length + L.length ≤ i + 1 ∧ (∀ w ∈ S, w.2.2.2 ≤ i + 1) ∧ (600 ≤ vm ∧ v0 ≤ vm) ∧ vm ≤ v0 + (i + 1))
    (hK : ∀ σ', rfM m FT [] nV σ σ' → SyR σ' m t ps vm k0 v0 n (b, S, L, i + 1) → Hx (k σ' ()) Q) : Hx (cb (fX12_reads σ m) k) Q := by
  refine Hx.bd (rt_next (i := i + 1) hm ht h13) (fun σ1 _ h => ?_)
  obtain ⟨r1, t1, m1, k1, a1⟩ := h
  exact hK σ1 r1 ⟨⟨m1, t1, hp.keep r1 (by decide) (by decide), k1, a1, h5.keep r1 (by decide)⟩, hY.keep r1 (by decide) (by decide) (fun _ _ _ q => q), hb⟩
theorem ry_waitsFor {σ : St} {m vm k0 a p : Nat} {o : Option Nat} {S : List Wt} {L : List It} (hm : MS σ m) (hY : Yd σ m vm k0 S L) (hl : S.length < 205 ∧ k0 + L.length + (S.length + 1) ≤ 12000) (h11 : Fi σ m 11 (nI p)) (hk : Wtk (a, p, o, 1)) :
    Hx (fX12_waitsFor σ m (nI a) (wwn o)) (fun σ' _ => Yr m k0 σ σ' ∧ Yd σ' m vm k0 ((a, p, o, 1) :: S) L) := by
  obtain ⟨⟨y1, y2, y3⟩, ⟨y4, y5, y6⟩, y7⟩ := hY
  have hka := hk.1
  have hka : (1 ≤ a ∧ (a ≤ 8 ∨ a = 40)) := hka
  have le := opn_le S
  obtain ⟨N, hN⟩ : ∃ N, N = S.length := ⟨_, rfl⟩
  rw [← hN] at y2 y3 y4 hl le
  have hm1 := ms_wA (b := m + 13) (i := N) (v := nI a) hm
  have hm2 := ms_wA (b := m + 14) (i := N) (v := nI p) hm1
  have hm3 := ms_wA (b := m + 15) (i := N) (v := wwn o) hm2
  have hm4 := ms_wA (b := m + 16) (i := N) (v := nI 1) hm3
  have f1 := fi_wA (b := m + 13) (i := N) (v := nI a) y4
  have f2 := fi_wA (b := m + 14) (i := N) (v := nI p) f1
  have f3 := fi_wA (b := m + 15) (i := N) (v := wwn o) f2
  have f4 := fi_wA (b := m + 16) (i := N) (v := nI 1) f3
  have g1 := fi_wA (b := m + 13) (i := N) (v := nI a) h11
  rw [n_fX12_waitsFor, rf_waits hm]
  refine hx_bs ?_
  rw [fi_g hm y4]
  refine hx_bs ?_
  rw [st_waits hm (by omega)]
  refine hx_bs ?_
  rw [rf_waitsAt hm1]
  refine hx_bs ?_
  rw [fi_g hm1 f1]
  refine hx_bs ?_
  rw [fi_g hm1 g1]
  refine hx_bs ?_
  rw [st_waitsAt hm1 (by omega)]
  refine hx_bs ?_
  rw [rf_waitsWord hm2]
  refine hx_bs ?_
  rw [fi_g hm2 f2]
  refine hx_bs ?_
  rw [st_waitsWord hm2 (by omega)]
  refine hx_bs ?_
  rw [rf_waitsMany hm3]
  refine hx_bs ?_
  rw [fi_g hm3 f3]
  refine hx_bs ?_
  rw [st_waitsMany hm3 (by omega)]
  refine hx_bs ?_
  rw [fi_g hm4 f4]
  refine hx_bs ?_
  rw [sm_add, rf_pI hm4]
  refine hx_bs ?_
  obtain ⟨T, hT⟩ : ∃ T, T = wI (wA (wA (wA (wA σ (m + 13) N (nI a)) (m + 14) N (nI p)) (m + 15) N (wwn o)) (m + 16) N (nI 1)) (fid 16 30) m (nI (N + 1)) := ⟨_, rfl⟩
  have hR : rfM m FW [13, 14, 15, 16] nV σ T := by
    rw [hT]
    exact ((((rfM.wA (by simp) (by omega)).tr (rfM.wA (by simp) (by omega))).tr (rfM.wA (by simp) (by omega))).tr (rfM.wA (by simp) (by omega))).tr (rfM.wI (by simp))
  have g : ∀ q j, j ≠ N → sA T q j = sA σ q j := by
    intro q j hj
    rw [hT, sA_wI_, sA_wA_j hj, sA_wA_j hj, sA_wA_j hj, sA_wA_j hj]
  have t30 : Fi T m 30 (nI (N + 1)) := by rw [hT]; exact fi_wI
  have t31 : Fi T m 31 (nI (opn S)) := by rw [hT]; exact fi_wn y5 (by decide)
  have t21 : Fi T m 21 (nI (k0 + L.length)) := by rw [hT]; exact fi_wn y6 (by decide)
  have tc : Wtc T m N (a, p, o, 1) := by
    unfold Wtc
    rw [hT, sA_wI_]
    refine ⟨?_, ?_, ?_, sA_wA_eq⟩
    · rw [sA_wA_b (by omega), sA_wA_b (by omega), sA_wA_b (by omega)]
      exact sA_wA_eq
    · rw [sA_wA_b (by omega), sA_wA_b (by omega)]
      exact sA_wA_eq
    · rw [sA_wA_b (by omega)]
      exact sA_wA_eq
  have hmT : MS T m := hR.ms hm
  have hY' : WtC T m ((a, p, o, 1) :: S) := ⟨by rw [← hN]; exact tc, hk, y1.co (fun j hj q _ _ => g _ j (by omega))⟩
  have hI : Its T m vm k0 L := y7.keepM hR (by decide) (fun _ _ _ q => q)
  have hRW : Yr m k0 σ T := ⟨hR.mo ⟨fun _ q => q, by decide⟩ (fun _ q => q), Ol.of hR (by decide)⟩
  have e1 : ((a, p, o, 1) :: S : List Wt).length = N + 1 := by rw [List.length_cons, ← hN]
  rw [← hT]
  have more : opw (a, p, o, 1) = 1 → Hx (fX12_waitsFor_71 T m) (fun σ' _ => Yr m k0 σ σ' ∧ Yd σ' m vm k0 ((a, p, o, 1) :: S) L) := by
    intro q
    rw [n_fX12_waitsFor_71, fi_g hmT t31]
    refine hx_bs ?_
    rw [sm_add, rf_pI hmT]
    have r9 : rfM m FW [] nV T (wI T (fid 16 31) m (nI (opn S + 1))) := rfM.wI (by decide)
    refine hx_bs (Hx.ret ⟨hRW.tr ⟨r9.mo ⟨fun _ q => q, fun _ q => (by cases q)⟩ (fun _ q => q), Ol.of r9 (by decide)⟩, ⟨hY'.keep r9 (by decide), by omega, by omega⟩, ⟨?_, ?_, fi_wn t21 (by decide)⟩, hI.keepM r9 (by decide) (fun _ _ _ q => q)⟩)
    · rw [e1]; exact fi_wn t30 (by decide)
    · rw [opn_cons, q, Nat.add_comm]; exact fi_wI
  refine Hx.ce (sm_eq (by omega) (by omega)) (fun c => more ?_) (fun c => ?_)
  · show (if a = 8 ∨ a = 6 ∨ a = 40 then 1 else 0) = 1
    rw [if_pos (Or.inr (Or.inr c))]
  refine Hx.ce (sm_eq (by omega) (by omega)) (fun c2 => more ?_) (fun c2 => ?_)
  · show (if a = 8 ∨ a = 6 ∨ a = 40 then 1 else 0) = 1
    rw [if_pos (Or.inl c2)]
  refine Hx.ce (sm_eq (by omega) (by omega)) (fun c3 => more ?_) (fun c3 => ?_)
  · show (if a = 8 ∨ a = 6 ∨ a = 40 then 1 else 0) = 1
    rw [if_pos (Or.inr (Or.inl c3))]
  refine Hx.ret ⟨hRW, ⟨hY', by omega, by omega⟩, ⟨by rw [e1]; exact t30, ?_, t21⟩, hI⟩
  have q : opw (a, p, o, 1) = 0 := by
    show (if a = 8 ∨ a = 6 ∨ a = 40 then 1 else 0) = 0
    rw [if_neg]
    rintro (q | q | q)
    · exact c2 q
    · exact c3 q
    · exact c q
  rw [opn_cons, q, Nat.zero_add]
  exact t31
