/-! ===== the reference's yard: rows, what waits ===== -/
theorem ms_wA {m b i : Nat} {v : Int32} {σ : St} (hm : MS σ m) : MS (wA σ b i v) m := hm
theorem fi_wA {m b i f : Nat} {v u : Int32} {σ : St} (h : Fi σ m f u) : Fi (wA σ b i v) m f u := h
def Ol (m k0 : Nat) (σ0 σ : St) : Prop := ∀ a, 6 ≤ a → a ≤ 9 → ∀ j, j < k0 → sA σ (m + a) j = sA σ0 (m + a) j
theorem Ol.rf {m k0 : Nat} {σ : St} : Ol m k0 σ σ := fun _ _ _ _ _ => rfl
theorem Ol.tr {m k0 : Nat} {σ0 σ1 σ2 : St} (h1 : Ol m k0 σ0 σ1) (h2 : Ol m k0 σ1 σ2) : Ol m k0 σ0 σ2 := fun a p1 p2 j hj => (h2 a p1 p2 j hj).trans (h1 a p1 p2 j hj)
theorem Ol.of {m k0 : Nat} {F A : List Nat} {V : Nat → Prop} {σ0 σ1 : St} (h : rfM m F A V σ0 σ1) (h6 : 6 ∉ A ∧ 7 ∉ A ∧ 8 ∉ A ∧ 9 ∉ A) : Ol m k0 σ0 σ1 := by
  intro a p1 p2 j _
  have e : a = 6 ∨ a = 7 ∨ a = 8 ∨ a = 9 := by omega
  rcases e with rfl | rfl | rfl | rfl
  · rw [h.ar 6 ⟨h6.1, by omega, by omega⟩]
  · rw [h.ar 7 ⟨h6.2.1, by omega, by omega⟩]
  · rw [h.ar 8 ⟨h6.2.2.1, by omega, by omega⟩]
  · rw [h.ar 9 ⟨h6.2.2.2, by omega, by omega⟩]
theorem ry_makes {σ : St} {m vm k0 a b c d : Nat} {L : List It} {it : It} (hm : MS σ m) (hI : Its σ m vm k0 L) (h21 : Fi σ m 21 (nI (k0 + L.length))) (hk : k0 + L.length < 12000) (ha : it.1 = a ∧ it.2.2.1 = c ∧ it.2.2.2.1 = d) (hb : a < 100 ∧ it.2.1 < 2147483648 ∧ c ≤ 200 ∧ d ≤ 200) (h30 : it.1 = 30 → Kv σ m vm b it.2.2.2.2) (hn : it.1 ≠ 30 → it.2.1 = b) :
    Hx (fX12_makes σ m (nI a) (nI b) (nI c) (nI d)) (fun σ' _ => rfM m [21] [6, 7, 8, 9] nV σ σ' ∧ Ol m k0 σ σ' ∧ Fi σ' m 21 (nI (k0 + (L ++ [it]).length)) ∧ Its σ' m vm k0 (L ++ [it])) := by
  obtain ⟨K, hK⟩ : ∃ K, K = k0 + L.length := ⟨_, rfl⟩
  rw [← hK] at h21 hk
  have hm1 := ms_wA (b := m + 6) (i := K) (v := nI a) hm
  have hm2 := ms_wA (b := m + 7) (i := K) (v := nI b) hm1
  have hm3 := ms_wA (b := m + 8) (i := K) (v := nI c) hm2
  have hm4 := ms_wA (b := m + 9) (i := K) (v := nI d) hm3
  have f1 := fi_wA (b := m + 6) (i := K) (v := nI a) h21
  have f2 := fi_wA (b := m + 7) (i := K) (v := nI b) f1
  have f3 := fi_wA (b := m + 8) (i := K) (v := nI c) f2
  have f4 := fi_wA (b := m + 9) (i := K) (v := nI d) f3
  rw [n_fX12_makes, rf_item hm]
  refine hx_bs ?_
  rw [fi_g hm h21]
  refine hx_bs ?_
  rw [st_item hm hk]
  refine hx_bs ?_
  rw [rf_which hm1]
  refine hx_bs ?_
  rw [fi_g hm1 f1]
  refine hx_bs ?_
  rw [st_which hm1 hk]
  refine hx_bs ?_
  rw [rf_with hm2]
  refine hx_bs ?_
  rw [fi_g hm2 f2]
  refine hx_bs ?_
  rw [st_with hm2 hk]
  refine hx_bs ?_
  rw [rf_where hm3]
  refine hx_bs ?_
  rw [fi_g hm3 f3]
  refine hx_bs ?_
  rw [st_where hm3 hk]
  refine hx_bs ?_
  rw [fi_g hm4 f4]
  refine hx_bs ?_
  rw [sm_add, rf_pI hm4]
  refine hx_bs (Hx.ret ?_)
  obtain ⟨T, hT⟩ : ∃ T, T = wI (wA (wA (wA (wA σ (m + 6) K (nI a)) (m + 7) K (nI b)) (m + 8) K (nI c)) (m + 9) K (nI d)) (fid 16 21) m (nI (K + 1)) := ⟨_, rfl⟩
  have hR : rfM m [21] [6, 7, 8, 9] nV σ T := by
    rw [hT]
    exact ((((rfM.wA (by simp) (by omega)).tr (rfM.wA (by simp) (by omega))).tr (rfM.wA (by simp) (by omega))).tr (rfM.wA (by simp) (by omega))).tr (rfM.wI (by simp))
  have h21' : Fi T m 21 (nI (K + 1)) := by rw [hT]; exact fi_wI
  have g : ∀ q j, j ≠ K → sA T q j = sA σ q j := by
    intro q j hj
    rw [hT, sA_wI_, sA_wA_j hj, sA_wA_j hj, sA_wA_j hj, sA_wA_j hj]
  have g6 : sA T (m + 6) K = nI a := by
    rw [hT, sA_wI_, sA_wA_b (by omega), sA_wA_b (by omega), sA_wA_b (by omega)]
    exact sA_wA_eq
  have g7 : sA T (m + 7) K = nI b := by
    rw [hT, sA_wI_, sA_wA_b (by omega), sA_wA_b (by omega)]
    exact sA_wA_eq
  have g8 : sA T (m + 8) K = nI c := by
    rw [hT, sA_wI_, sA_wA_b (by omega)]
    exact sA_wA_eq
  have g9 : sA T (m + 9) K = nI d := by
    rw [hT, sA_wI_]
    exact sA_wA_eq
  rw [← hT]
  refine ⟨hR, fun q _ _ j hj => g _ j (by omega), ?_, ?_, ?_⟩
  · rw [List.length_append, List.length_singleton, ← Nat.add_assoc, ← hK]; exact h21'
  · rw [List.length_append, List.length_singleton]; omega
  · intro j x hx
    by_cases c1 : j < L.length
    · rw [List.getElem?_append_left c1] at hx
      obtain ⟨i0, i1, i2, i3, i4, i5⟩ := hI.2 j x hx
      refine ⟨i0, ?_, fun q => ?_, fun q => ?_, ?_, ?_⟩
      · rw [g _ _ (by omega)]; exact i1
      · obtain ⟨vi, u1, u2⟩ := i2 q
        exact ⟨vi, by rw [g _ _ (by omega)]; exact u1, u2.keepM hR (fun _ _ _ w => w)⟩
      · rw [g _ _ (by omega)]; exact i3 q
      · rw [g _ _ (by omega)]; exact i4
      · rw [g _ _ (by omega)]; exact i5
    · have c2 : j = L.length := by
        have := (List.getElem?_eq_some_iff.mp hx).1
        rw [List.length_append, List.length_singleton] at this
        omega
      subst c2
      rw [List.getElem?_append_right (Nat.le_refl _), Nat.sub_self] at hx
      have hx : it = x := Option.some.inj hx
      subst hx
      rw [← hK]
      refine ⟨⟨hk, by omega, hb.2.1, by omega, by omega⟩, ?_, fun q => ⟨b, g7, (h30 q).keepM hR (fun _ _ _ w => w)⟩, fun q => ?_, ?_, ?_⟩
      · rw [g6, ha.1]
      · rw [g7, hn q]
      · rw [g8, ha.2.1]
      · rw [g9, ha.2.2]
/-- one that waits, in place j -/
def wwn (o : Option Nat) : Int32 := match o with
  | none => iz (-1)
  | some u => nI u
theorem wwn_n {o : Option Nat} (h : ∀ u, o = some u → u < 2147483648) : (wwn o = iz (-1)) = (o = none) := by
  cases o with
  | none => exact propext ⟨fun _ => rfl, fun _ => rfl⟩
  | some u =>
    have hu := h u rfl
    refine propext ⟨fun q => ?_, fun q => (by cases q)⟩
    have e : (nI u).toInt = (iz (-1)).toInt := congrArg Int32.toInt q
    rw [sm_toInt hu] at e
    have e2 : (iz (-1)).toInt = -1 := rfl
    rw [e2] at e
    omega
def Wtc (σ : St) (m j : Nat) (w : Wt) : Prop := sA σ (m + 13) j = nI w.1 ∧ sA σ (m + 14) j = nI w.2.1 ∧ sA σ (m + 15) j = wwn w.2.2.1 ∧ sA σ (m + 16) j = nI w.2.2.2
def Wtk (w : Wt) : Prop := (1 ≤ w.1 ∧ (w.1 ≤ 8 ∨ w.1 = 40)) ∧ w.2.1 ≤ 200 ∧ (∀ u, w.2.2.1 = some u → u < 2147483648) ∧ w.2.2.2 ≤ 200
def WtC (σ : St) (m : Nat) : List Wt → Prop
  | [] => True
  | w :: S => Wtc σ m S.length w ∧ Wtk w ∧ WtC σ m S
theorem WtC.co {m : Nat} {σ σ' : St} : ∀ {S : List Wt}, WtC σ m S → (∀ j, j < S.length → ∀ a, 13 ≤ a → a ≤ 16 → sA σ' (m + a) j = sA σ (m + a) j) → WtC σ' m S := by
  intro S
  induction S with
  | nil => intro _ _; exact True.intro
  | cons w S ih =>
    intro h g
    obtain ⟨⟨h1, h2, h3, h4⟩, h5, h6⟩ := h
    have g' := g S.length (by simp)
    exact ⟨⟨(g' 13 (by omega) (by omega)).trans h1, (g' 14 (by omega) (by omega)).trans h2, (g' 15 (by omega) (by omega)).trans h3, (g' 16 (by omega) (by omega)).trans h4⟩, h5, ih h6 (fun j hj => g j (by simp; omega))⟩
theorem WtC.keep {m : Nat} {S : List Wt} {F A : List Nat} {V : Nat → Prop} {σ σ' : St} (h : WtC σ m S) (hR : rfM m F A V σ σ') (hA : 13 ∉ A ∧ 14 ∉ A ∧ 15 ∉ A ∧ 16 ∉ A) : WtC σ' m S := by
  refine h.co (fun j _ a h1 h2 => ?_)
  have e : a = 13 ∨ a = 14 ∨ a = 15 ∨ a = 16 := by omega
  rcases e with rfl | rfl | rfl | rfl
  · rw [hR.ar 13 ⟨hA.1, by omega, by omega⟩]
  · rw [hR.ar 14 ⟨hA.2.1, by omega, by omega⟩]
  · rw [hR.ar 15 ⟨hA.2.2.1, by omega, by omega⟩]
  · rw [hR.ar 16 ⟨hA.2.2.2, by omega, by omega⟩]
theorem opn_le : ∀ S : List Wt, opn S ≤ S.length := by
  intro S
  induction S with
  | nil => exact Nat.le_refl _
  | cons w S ih =>
    rw [opn_cons, List.length_cons]
    have : opw w ≤ 1 := by unfold opw; split <;> omega
    omega
/-- the yard -/
def Yd (σ : St) (m vm k0 : Nat) (S : List Wt) (L : List It) : Prop := (WtC σ m S ∧ S.length ≤ 205 ∧ k0 + L.length + S.length ≤ 12000) ∧ (Fi σ m 30 (nI S.length) ∧ Fi σ m 31 (nI (opn S)) ∧ Fi σ m 21 (nI (k0 + L.length))) ∧ Its σ m vm k0 L
theorem Yd.keep {m vm k0 : Nat} {S : List Wt} {L : List It} {F A : List Nat} {V : Nat → Prop} {σ σ' : St} (h : Yd σ m vm k0 S L) (hR : rfM m F A V σ σ') (hA : (13 ∉ A ∧ 14 ∉ A ∧ 15 ∉ A ∧ 16 ∉ A) ∧ 6 ∉ A ∧ 7 ∉ A ∧ 8 ∉ A ∧ 9 ∉ A) (hF : 30 ∉ F ∧ 31 ∉ F ∧ 21 ∉ F) (hv : ∀ i, 600 ≤ i → i < vm → ¬ V i) : Yd σ' m vm k0 S L :=
  ⟨⟨h.1.1.keep hR hA.1, h.1.2⟩, ⟨h.2.1.1.keep hR hF.1, h.2.1.2.1.keep hR hF.2.1, h.2.1.2.2.keep hR hF.2.2⟩, h.2.2.keepM hR hA.2 hv⟩
abbrev FW : List Nat := [21, 30, 31]
abbrev AYW : List Nat := [6, 7, 8, 9, 13, 14, 15, 16]
def Yr (m k0 : Nat) (σ σ' : St) : Prop := rfM m FW AYW nV σ σ' ∧ Ol m k0 σ σ'
theorem Yr.rf {m k0 : Nat} {σ : St} : Yr m k0 σ σ := ⟨rfM.rf, Ol.rf⟩
theorem Yr.tr {m k0 : Nat} {σ σ1 σ2 : St} (h1 : Yr m k0 σ σ1) (h2 : Yr m k0 σ1 σ2) : Yr m k0 σ σ2 := ⟨h1.1.tr h2.1, h1.2.tr h2.2⟩
theorem ry_rank {a : Nat} {σ : St} (h1 : 1 ≤ a) (h2 : a < 100) : fX12_rank σ (nI a) = some (σ, nI (rk a)) := by
  apply hx_eq
  rw [n_fX12_rank]
  unfold rk
  refine Hx.ce (sm_eq (by omega) (by omega)) (fun c => ?_) (fun c => ?_)
  · rw [if_pos (by omega), n_fX12_rank_10]; exact Hx.ret ⟨rfl, rfl⟩
  refine Hx.ce (sm_eq (by omega) (by omega)) (fun c2 => ?_) (fun c2 => ?_)
  · rw [if_pos (by omega), n_fX12_rank_10]; exact Hx.ret ⟨rfl, rfl⟩
  rw [if_neg (show ¬ a ≤ 2 by omega)]
  refine Hx.ce (sm_eq (by omega) (by omega)) (fun c3 => ?_) (fun c3 => ?_)
  · rw [if_pos (by omega), n_fX12_rank_29]; exact Hx.ret ⟨rfl, rfl⟩
  refine Hx.ce (sm_eq (by omega) (by omega)) (fun c4 => ?_) (fun c4 => ?_)
  · rw [if_pos (by omega), n_fX12_rank_29]; exact Hx.ret ⟨rfl, rfl⟩
  refine Hx.ce (sm_eq (by omega) (by omega)) (fun c5 => ?_) (fun c5 => ?_)
  · rw [if_pos (by omega), n_fX12_rank_29]; exact Hx.ret ⟨rfl, rfl⟩
  rw [if_neg (show ¬ a ≤ 5 by omega)]
  exact Hx.ret ⟨rfl, rfl⟩
theorem rk_b (a : Nat) : 1 ≤ rk a ∧ rk a ≤ 3 := by unfold rk; repeat' split
                                                   all_goals omega
theorem ry_89 {m vm k0 : Nat} {w : Wt} {S : List Wt} {L : List It} {σ : St} {r : Nat} {k : St → Nat → Int32 → Option (St × Unit)} {Q : St → Unit → Prop} (hm : MS σ m) (hc : Wtc σ m S.length w) (hk : Wtk w) (h40 : w.1 ≠ 40) (hY : Yd σ m vm k0 S L) (hl : S.length < 205 ∧ k0 + L.length + (S.length + 1) ≤ 12000)
    (hK : ∀ σ', Yr m k0 σ σ' → Yd σ' m vm k0 S (L ++ [emw w]) → Hx (k σ' m (nI r)) Q) : Hx (fX12_settles_89 k σ m (nI r)) Q := by
  obtain ⟨⟨y1, y2, y3⟩, ⟨y4, y5, y6⟩, y7⟩ := hY
  obtain ⟨c1, c2, c3, c4⟩ := hc
  obtain ⟨⟨k1, k2⟩, k3, k4, k5⟩ := hk
  rw [n_fX12_settles_89, rf_waits hm]
  refine hx_bs ?_
  rw [fi_g hm y4]
  refine hx_bs ?_
  rw [ld_waits hm (by omega), c1]
  refine hx_bs ?_
  rw [rf_waitsAt hm]
  refine hx_bs (hx_bs ?_)
  rw [ld_waitsAt hm (by omega), c2]
  refine hx_bs ?_
  rw [rf_ck hm]
  refine hx_bs ?_
  refine Hx.bd (ry_makes (it := emw w) hm y7 y6 (by omega) ⟨rfl, rfl, rfl⟩ ⟨by omega, by show 0 < _; omega, by omega, by omega⟩ (fun q => absurd (show w.1 = 30 from q) (by omega)) (fun _ => rfl)) (fun σ1 _ h => ?_)
  obtain ⟨r1, r2, r3, r4⟩ := h
  refine hK σ1 ⟨r1.mo ⟨by decide, by decide⟩ (fun _ q => q), r2⟩ ⟨⟨y1.keep r1 (by decide), y2, ?_⟩, ⟨y4.keep r1 (by decide), y5.keep r1 (by decide), r3⟩, r4⟩
  rw [List.length_append, List.length_singleton]
  omega
theorem ry_settles_0 {m vm k0 r : Nat} (hr : r ≤ 3) : ∀ (n : Nat) (S : List Wt) (L : List It) (σ : St), S.length < n → MS σ m → Yd σ m vm k0 S L → Hx (fX12_settles_0 n σ m (nI r)) (fun σ' _ => Yr m k0 σ σ' ∧ Yd σ' m vm k0 (stl r S L).1 (stl r S L).2) := by
  intro n
  induction n with
  | zero => intro S L σ h; omega
  | succ n ih =>
    intro S L σ hn hm hY
    have hY0 := hY
    obtain ⟨⟨y1, y2, y3⟩, ⟨y4, y5, y6⟩, y7⟩ := hY
    rw [n_fX12_settles_0, fi_g hm y4]
    refine hx_bs (Hx.ce (sm_le (by omega) (by omega)) (fun c => ?_) (fun c => ?_))
    · cases S with
      | nil => exact Hx.ret ⟨Yr.rf, hY0⟩
      | cons w S => simp at c
    · cases S with
      | nil => simp at c
      | cons w S =>
        obtain ⟨hc, hk, y1'⟩ := y1
        have hc0 := hc
        have hk0 := hk
        obtain ⟨c1, c2, c3, c4⟩ := hc
        obtain ⟨⟨k1, k2⟩, k3, k4, k5⟩ := hk
        rw [List.length_cons] at y2 y3 y4 hn
        have e1 : (stl r (w :: S) L) = if w.1 ≠ 40 ∧ r ≤ rk w.1 then stl r S (L ++ [emw w]) else (w :: S, L) := rfl
        have hrk := rk_b w.1
        rw [rf_waits hm]
        refine hx_bs (hx_bs ?_)
        rw [List.length_cons, sm_sub (by omega), Nat.add_sub_cancel, ld_waits hm (by omega), c1]
        refine hx_bs (Hx.ce (sm_eq (by omega) (by omega)) (fun c5 => ?_) (fun c5 => ?_))
        · rw [e1, if_neg (fun q => q.1 c5)]
          exact Hx.ret ⟨Yr.rf, hY0⟩
        · refine hx_bs (hx_bs ?_)
          try rw [sm_sub (by omega), Nat.add_sub_cancel]
          rw [ld_waits hm (by omega), c1]
          refine hx_bs ?_
          rw [ry_rank k1 (by omega)]
          refine hx_cs (Hx.ce (sm_lt (by omega) (by omega)) (fun c6 => ?_) (fun c6 => ?_))
          · rw [e1, if_neg (fun q => absurd q.2 (by omega))]
            exact Hx.ret ⟨Yr.rf, hY0⟩
          · rw [e1, if_pos ⟨c5, by omega⟩]
            rw [fi_g hm y4]
            refine hx_bs ?_
            rw [sm_sub (by omega), Nat.add_sub_cancel, rf_pI hm]
            refine hx_bs ?_
            have hm1 : MS (wI σ (fid 16 30) m (nI S.length)) m := hm
            have hR1 : rfM m FW AYW nV σ (wI σ (fid 16 30) m (nI S.length)) := rfM.wI (by decide)
            have x30 : Fi (wI σ (fid 16 30) m (nI S.length)) m 30 (nI S.length) := fi_wI
            have x31 : Fi (wI σ (fid 16 30) m (nI S.length)) m 31 (nI (opn (w :: S))) := fi_wn y5 (by decide)
            have x21 : Fi (wI σ (fid 16 30) m (nI S.length)) m 21 (nI (k0 + L.length)) := fi_wn y6 (by decide)
            have hc1 : Wtc (wI σ (fid 16 30) m (nI S.length)) m S.length w := hc0
            have y11 : WtC (wI σ (fid 16 30) m (nI S.length)) m S := y1'.co (fun _ _ _ _ _ => rfl)
            have y71 : Its (wI σ (fid 16 30) m (nI S.length)) m vm k0 L := y7.keepM (rfM.wI (F := [30]) (A := []) (V := nV) (by decide)) (by decide) (fun _ _ _ q => q)
            have ol1 : Ol m k0 σ (wI σ (fid 16 30) m (nI S.length)) := fun _ _ _ _ _ => rfl
            have le := opn_le (w :: S)
            rw [List.length_cons] at le
            have e79 : opw w = 1 → Hx (fX12_settles_79 (fX12_settles_0 n) (wI σ (fid 16 30) m (nI S.length)) m (nI r)) (fun σ' _ => Yr m k0 σ σ' ∧ Yd σ' m vm k0 (stl r S (L ++ [emw w])).1 (stl r S (L ++ [emw w])).2) := by
              intro q
              rw [opn_cons, q] at x31 le
              rw [n_fX12_settles_79, fi_g hm1 x31]
              refine hx_bs ?_
              rw [sm_sub (by omega), rf_pI hm1, Nat.add_sub_cancel_left]
              refine hx_bs ?_
              have hR2 : rfM m FW AYW nV σ (wI (wI σ (fid 16 30) m (nI S.length)) (fid 16 31) m (nI (opn S))) := hR1.tr (rfM.wI (by decide))
              refine ry_89 (w := w) (S := S) (L := L) (vm := vm) (k0 := k0) hm hc0 hk0 c5 ⟨⟨y1'.co (fun _ _ _ _ _ => rfl), by omega, by omega⟩, ⟨fi_wn x30 (by decide), fi_wI, fi_wn x21 (by decide)⟩, y71.keepM (rfM.wI (F := [31]) (A := []) (V := nV) (by decide)) (by decide) (fun _ _ _ q => q)⟩ ⟨by omega, by omega⟩ (fun σ' g1 g2 => ?_)
              refine (ih S _ σ' (by omega) (g1.1.ms hm) g2).mo (fun σ'' _ u => ⟨Yr.tr ⟨hR2, fun _ _ _ _ _ => rfl⟩ (g1.tr u.1), u.2⟩)
            rw [rf_waits hm1]
            refine hx_bs ?_
            rw [fi_g hm1 x30]
            refine hx_bs ?_
            rw [ld_waits hm1 (by omega), hc1.1]
            refine hx_bs (Hx.ce (sm_eq (by omega) (by omega)) (fun c7 => ?_) (fun c7 => ?_))
            · exact e79 (by unfold opw; rw [if_pos (Or.inl c7)])
            · refine hx_bs (hx_bs ?_)
              try rw [ld_waits hm1 (by omega), hc1.1]
              refine hx_bs (Hx.ce (sm_eq (by omega) (by omega)) (fun c8 => ?_) (fun c8 => ?_))
              · exact e79 (by unfold opw; rw [if_pos (Or.inr (Or.inl c8))])
              · have q : opw w = 0 := by
                  unfold opw
                  rw [if_neg]
                  rintro (q | q | q)
                  · exact c7 q
                  · exact c8 q
                  · exact c5 q
                rw [opn_cons, q, Nat.zero_add] at x31
                refine ry_89 (w := w) (S := S) (L := L) (vm := vm) (k0 := k0) hm1 hc1 hk0 c5 ⟨⟨y11, by omega, by omega⟩, ⟨x30, x31, x21⟩, y71⟩ ⟨by omega, by omega⟩ (fun σ' g1 g2 => ?_)
                refine (ih S _ σ' (by omega) (g1.1.ms hm) g2).mo (fun σ'' _ u => ⟨Yr.tr ⟨hR1, ol1⟩ (g1.tr u.1), u.2⟩)
theorem ry_settles {m vm k0 r : Nat} {S : List Wt} {L : List It} {σ : St} (hr : r ≤ 3) (hm : MS σ m) (hY : Yd σ m vm k0 S L) : Hx (fX12_settles σ m (nI r)) (fun σ' _ => Yr m k0 σ σ' ∧ Yd σ' m vm k0 (stl r S L).1 (stl r S L).2) := by
  rw [n_fX12_settles]
  exact ry_settles_0 hr FU S L σ (by have := hY.1.2.1; unfold FU; omega) hm hY
