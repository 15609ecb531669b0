/-! ===== the class' Machine: push, note ===== -/
theorem qok.n4 {q : Qv} (h : qok q) : sml q.2.1 4 ∧ sml q.2.2 4 := ⟨Nat.lt_trans h.2.2.2.2.1 dig30_bp, Nat.lt_trans h.2.2.2.2.2 dig30_bp⟩
theorem mI {σ : St} {x : Nat} (h : XS σ x) (k : Nat) : gI σ 6 k (x + 75) = some (sI σ (fid 6 k) (x + 75)) := sm_gI (h.kd 75 7 (by decide))
theorem mP {σ : St} {x : Nat} (h : XS σ x) (k : Nat) (v : Int32) : pI σ 6 k (x + 75) v = some (wI σ (fid 6 k) (x + 75) v) := sm_pI (h.kd 75 7 (by decide))
theorem cM.tr0 {x k c : Nat} {S S1 : Nat → Prop} {σ σ1 σ2 : St} (h1 : cM x S k c σ σ1) (h2 : cM x S1 0 0 σ1 σ2) (hS : ∀ r, r < sz σ → S1 r → S r) : cM x S k c σ σ2 := h1.tr h2 hS
/-- the cells that a push to one fraction writes -/
def s47 (x e r : Nat) : Prop := r = x + 75 ∨ (x + 80 ≤ r ∧ r ≤ x + 83) ∨ r = e ∨ r = e + 1 ∨ r = e + 3
theorem cm_push47 {x v h e : Nat} {q : Qv} {σ : St} (hp : HP (PX x) σ) (hx : XS σ x) (hQ : SQ σ x) (ht : sI σ (fid 6 1) (x + 75) = nI h) (hh : h < 1000) (hV : FX σ v q.1 q.2.1 q.2.2) (hq : qok q) (hv0 : v = x + 80 ∨ x + 84 < v ∨ v = x + 3) (he : sQ σ (x + 76) h = e) (he0 : e ≠ 0) (hev : e ≠ v) :
    Hx (fX2_push_47 σ (x + 75) v) (fun σ' r => r = nI 0 ∧ cM x (s47 x e) 0 0 σ σ' ∧ SQ σ' x ∧ sI σ' (fid 6 1) (x + 75) = nI (h + 1) ∧ FX σ' e q.1 q.2.1 q.2.2 ∧ FX σ' (x + 80) q.1 q.2.1 q.2.2 ∧ (∀ T, tMu T → ∀ j, sQ σ' (x + T) j = sQ σ (x + T) j) ∧ ∀ k, k ≠ 1 → sI σ' (fid 6 k) (x + 75) = sI σ (fid 6 k) (x + 75)) := by
  obtain ⟨hel, hefs, s', n', d', hE⟩ := hQ.1 76 h (Or.inl rfl) (by rw [he]; exact he0)
  rw [he] at hel hefs hE
  obtain ⟨q1, q2⟩ := hq.n4
  have hve := hefs.ne hV.1 hev
  have hk76 := hx.k104 (Or.inl rfl : tMu 76)
  have hl76 := hx.nn 76 1000 (by decide)
  rw [n_fX2_push_47, xf_6_0 hx]
  refine hx_bs ?_
  rw [mI hx 1, ht]
  refine hx_bs ?_
  rw [ldQ_ok (ti := 4) hk76 (by rw [hl76]; exact hh) (by omega), he]
  refine hx_bs ?_
  rw [fx_k hefs]
  refine hx_bs ?_
  refine Hx.bd (cf_setTo hp hE hV hev (rm_of hE.2.2.1 q1) (rm_of hE.2.2.2 q2) (lt_bp q1 (by omega)) (lt_bp q2 (by omega))) (fun σ1 _ h1 => ?_)
  obtain ⟨hF1, hE1⟩ := h1
  have hx1 := hx.kW hF1
  have hp1 := hF1.hp
  have hQ1 : SQ σ1 x := hQ.set hx (Or.inl rfl : tMu 76) (i := h) (by rw [he]; exact he0) (by rw [he]; exact hF1) (by rw [he]; exact hE1)
  have hV1 := hV.kW hF1 (by simp only [s3]; omega)
  have k75 : sK σ (x + 75) = 7 := hx.kd 75 7 (by decide)
  have m1 : ∀ k, sI σ1 (fid 6 k) (x + 75) = sI σ (fid 6 k) (x + 75) := fun k => (hF1.sam (by rw [k75]; omega) (Or.inl (by rw [k75]; omega)) (by simp only [s3]; omega)).1 _
  rw [mI hx1 1, m1, ht]
  refine hx_bs ?_
  rw [mP hx1, sm_add]
  refine hx_bs ?_
  have k75' : sK σ1 (x + 75) = 7 := hx1.kd 75 7 (by decide)
  have hF2 := cWi (f := fid 6 1) (v := nI (h + 1)) hp1 (show sK σ1 (x + 75) ≠ 8 by omega) (show sK σ1 (x + 75) ≠ 100 by omega)
  have hx2 := hx1.kW hF2
  have hp2 := hF2.hp
  have hQ2 := hQ1.st hF2 hx1 (fun r hr => by simp only [s1] at hr; omega)
  have hV2 := hV1.kW hF2 (by simp only [s1]; omega)
  have hE2 := hE1.kW hF2 (by simp only [s1]; omega)
  have m2 : ∀ k, k ≠ 1 → sI (wI σ1 (fid 6 1) (x + 75) (nI (h + 1))) (fid 6 k) (x + 75) = sI σ (fid 6 k) (x + 75) := fun k hk => (sI_wI_f (by unfold fid; omega)).trans (m1 k)
  have m2' : sI (wI σ1 (fid 6 1) (x + 75) (nI (h + 1))) (fid 6 1) (x + 75) = nI (h + 1) := sI_wI_eq
  generalize wI σ1 (fid 6 1) (x + 75) (nI (h + 1)) = σ2 at *
  rw [xf_6_8 hx2]
  refine hx_bs ?_
  have fsI := hx2.fs 80 (by omega)
  rw [fx_k fsI]
  refine hx_bs ?_
  have k75'' : sK σ2 (x + 75) = 7 := hx2.kd 75 7 (by decide)
  have hset : Hx (fX1_setTo σ2 (x + 80) v) (fun σ' _ => cW x (s3 (x + 80) (x + 80 + 1) (x + 80 + 3)) 0 0 σ2 σ' ∧ FX σ' (x + 80) q.1 q.2.1 q.2.2) := by
    by_cases c : v = x + 80
    · subst c
      exact cf_setSelf hp2 hV2 (Or.inl (by simp)) (Or.inl (by simp)) (lt_bp q1 (by omega)) (lt_bp q2 (by omega))
    · obtain ⟨w1, hW1⟩ := hp2.2 (x + 80 + 1) (by simp)
      obtain ⟨w3, hW3⟩ := hp2.2 (x + 80 + 3) (by simp)
      exact cf_setTo hp2 ⟨fsI, ⟨fsI.1, (iz_self _)⟩, hW1, hW3⟩ hV2 (fun e => c e.symm) (Or.inl (by simp)) (Or.inl (by simp)) (lt_bp q1 (by omega)) (lt_bp q2 (by omega))
  refine Hx.bd hset (fun σ3 _ h3 => ?_)
  obtain ⟨hF3, hG3⟩ := h3
  have hF13 := ((hF1.mo (S' := s47 x e) (fun r _ hr => by simp only [s3, s47] at hr ⊢; omega) (Nat.le_refl _) (Nat.le_refl _)).tr0 hF2 (fun r _ hr => by simp only [s1, s47] at hr ⊢; omega)).tr0 hF3 (fun r _ hr => by simp only [s3, s47] at hr ⊢; omega)
  have hS : ∀ T, tMu T → ¬ s47 x e (x + T) := fun T hT => by
    simp only [s47]
    rcases hT with rfl | rfl | rfl <;> omega
  refine Hx.ret ⟨rfl, hF13.toM hx hS, hQ2.st hF3 hx2 (fun r hr => by simp only [s3] at hr; omega), ?_, hE2.kW hF3 (by simp only [s3]; omega), hG3, fun T hT => hF13.row hx hT (hS T hT), fun k hk => ?_⟩
  · rw [(hF3.sam (by rw [k75'']; omega) (Or.inl (by rw [k75'']; omega)) (by simp only [s3]; omega)).1]
    exact m2'
  · rw [(hF3.sam (by rw [k75'']; omega) (Or.inl (by rw [k75'']; omega)) (by simp only [s3]; omega)).1]
    exact m2 k hk
def sP (σ : St) (x h r : Nat) : Prop := (x + 75 ≤ r ∧ r ≤ x + 76) ∨ (x + 80 ≤ r ∧ r ≤ x + 83) ∨ fc (sQ σ (x + 76) h) r
/-- the other rows and places are as they were -/
def rO (σ σ' : St) (x T0 h : Nat) : Prop := ∀ T, tMu T → ∀ j, ¬ (T = T0 ∧ j = h) → sQ σ' (x + T) j = sQ σ (x + T) j
theorem cm_push {x v h : Nat} {q : Qv} {σ : St} (hp : HP (PX x) σ) (hx : XS σ x) (hQ : SQ σ x) (ht : sI σ (fid 6 1) (x + 75) = nI h) (hh : h < 1000) (hV : FX σ v q.1 q.2.1 q.2.2) (hq : qok q) (hv0 : v = x + 80 ∨ x + 84 < v ∨ v = x + 3) (hvn : sQ σ (x + 76) h ≠ v) :
    Hx (fX2_push σ (x + 75) v) (fun σ' r => r = nI 0 ∧ cM x (sP σ x h) 0 0 σ σ' ∧ SQ σ' x ∧ sI σ' (fid 6 1) (x + 75) = nI (h + 1) ∧ (sQ σ' (x + 76) h ≠ 0 ∧ FX σ' (sQ σ' (x + 76) h) q.1 q.2.1 q.2.2) ∧ FX σ' (x + 80) q.1 q.2.1 q.2.2 ∧ rO σ σ' x 76 h ∧ ∀ k, k ≠ 1 → sI σ' (fid 6 k) (x + 75) = sI σ (fid 6 k) (x + 75)) := by
  have hk76 := hx.k104 (Or.inl rfl : tMu 76)
  have hl76 := hx.nn 76 1000 (by decide)
  have hv9 : v ≠ 0 := by
    intro e
    have := hV.1.1
    rw [e, hp.1.1.1] at this
    omega
  have hvz : v < sz σ := hp.1.lt (by rw [hV.1.1]; omega)
  rw [n_fX2_push, if_neg hv9, mI hx 1, ht]
  refine hx_bs ?_
  rw [xf_6_0 hx]
  refine hx_bs ?_
  rw [sm_aln hk76 ⟨by omega, by omega⟩, hl76]
  refine hx_bs ?_
  rw [if_pos (by rw [sm_lt (by omega) (by omega)]; exact hh)]
  refine hx_bs ?_
  refine hx_bs ?_
  rw [ldQ_ok (ti := 4) hk76 (by rw [hl76]; exact hh) (by omega)]
  refine hx_bs ?_
  refine Hx.cs (fun c => ?_) (fun c => ?_)
  · refine hx_bs ?_
    refine hx_bs ?_
    refine hx_nm (hx_nm ?_)
    rw [show ckK (nw 6 0 3 σ) 6 (sz σ) = some () from sm_ckK (by show (if sz σ = sz σ then 6 else _) = 6; rw [if_pos rfl])]
    refine hx_bs ?_
    refine Hx.bd (cf_init hp) (fun σ1 _ h1 => ?_)
    obtain ⟨hF1, hX1⟩ := h1
    obtain ⟨hQ2, hM2, e2, hX2, hz0⟩ := hQ.put hx (Or.inl rfl : tMu 76) (i := h) (by unfold lT; rw [if_pos rfl]; exact hh) c hF1 hX1
    rw [e2]
    refine hx_bs ?_
    have hV1 := hV.kW hF1 ⟨fun h => h, fun h => h, fun h => h⟩
    have hx1 := hx.kW hF1
    have hk1 := hx1.k104 (Or.inl rfl : tMu 76)
    have hF2 := cWq (j := h) (v := sz σ) hF1.hp (show sK σ1 (x + 76) ≠ 8 by omega) (show sK σ1 (x + 76) ≠ 100 by omega)
    have hV2 := hV1.kW hF2 (by simp only [s1]; omega)
    have hx2 := hx1.kW hF2
    have k75 : sK σ (x + 75) = 7 := hx.kd 75 7 (by decide)
    have m1 : ∀ k, sI σ1 (fid 6 k) (x + 75) = sI σ (fid 6 k) (x + 75) := fun k => (hF1.sam (by rw [k75]; omega) (Or.inl (by rw [k75]; omega)) (fun h => h)).1 _
    have m2 : ∀ k, sI (wQ σ1 (x + 76) h (sz σ)) (fid 6 k) (x + 75) = sI σ (fid 6 k) (x + 75) := m1
    have e76 : sQ (wQ σ1 (x + 76) h (sz σ)) (x + 76) h = sz σ := sQ_wQ_eq
    have rO2 : rO σ (wQ σ1 (x + 76) h (sz σ)) x 76 h := fun T hT j hj => by
      have : sQ (wQ σ1 (x + 76) h (sz σ)) (x + T) j = sQ σ1 (x + T) j := if_neg (fun q => hj ⟨by omega, q.2⟩)
      rw [this]
      exact hF1.row hx hT (fun h => h) j
    generalize wQ σ1 (x + 76) h (sz σ) = σ2 at *
    refine Hx.mo (cm_push47 hM2.hp hx2 hQ2 (by rw [m2]; exact ht) hh hV2 hq hv0 e76 hz0 (by omega)) (fun σ3 r h3 => ?_)
    obtain ⟨g1, g2, g3, g4, g5, g6, g7, g8⟩ := h3
    refine ⟨g1, (hM2.mo (S' := sP σ x h) (fun r _ hr => by simp only [s1, sP] at hr ⊢; omega) (Nat.le_refl _) (Nat.le_refl _)).tr0 g2 (fun r hr hs => by simp only [s47, sP] at hs ⊢; omega), g3, g4, ?_, g6, fun T hT j hj => by rw [g7 T hT, rO2 T hT j hj], fun k hk => by rw [g8 k hk, m2]⟩
    rw [g7 76 (Or.inl rfl), e76]
    exact ⟨hz0, g5⟩
  · refine Hx.mo (cm_push47 hp hx hQ ht hh hV hq hv0 rfl c hvn) (fun σ3 r h3 => ?_)
    obtain ⟨g1, g2, g3, g4, g5, g6, g7, g8⟩ := h3
    refine ⟨g1, g2.mo (fun r _ hr => ?_) (Nat.le_refl _) (Nat.le_refl _), g3, g4, ?_, g6, fun T hT j _ => g7 T hT j, g8⟩
    · unfold s47 at hr
      unfold sP fc
      omega
    · rw [g7 76 (Or.inl rfl)]
      exact ⟨c, g5⟩
/-! the steps of a line -/
def oS (o : Nat) : Prop := o = 11 ∨ o = 14
theorem oS.t {o : Nat} (h : oS o) : tMu (o + 2) := by rcases h with rfl | rfl <;> unfold tMu <;> omega
theorem XS.o {σ : St} {x o : Nat} (h : XS σ x) (ho : oS o) : (sK σ (x + o) = 13 ∧ sK σ (x + (o + 1)) = 100 ∧ sN σ (x + (o + 1)) = 200 ∧ sN σ (x + (o + 2)) = 200 ∧ NL σ (x + (o + 1))) ∧ gF σ 12 0 (x + o) = some (x + (o + 1)) ∧ gF σ 12 1 (x + o) = some (x + (o + 2)) := by
  rcases ho with rfl | rfl
  · exact ⟨⟨h.kd 11 13 (by decide), h.kd 12 100 (by decide), h.nn 12 200 (by decide), h.nn 13 200 (by decide), h.2.2.2.2 12 (by decide)⟩, xf_12_0_11 h, xf_12_1_11 h⟩
  · exact ⟨⟨h.kd 14 13 (by decide), h.kd 15 100 (by decide), h.nn 15 200 (by decide), h.nn 16 200 (by decide), h.2.2.2.2 15 (by decide)⟩, xf_12_0_14 h, xf_12_1_14 h⟩
def sN2 (σ : St) (x o L r : Nat) : Prop := (x + o ≤ r ∧ r ≤ x + o + 2) ∨ fc (sQ σ (x + (o + 2)) L) r
theorem cm_note {x o L kd : Nat} {q : Qv} {σ : St} (hp : HP (PX x) σ) (hx : XS σ x) (hQ : SQ σ x) (ho : oS o) (hl : sI σ (fid 12 2) (x + o) = nI L) (hL : L < 200) (hV : FX σ (x + 80) q.1 q.2.1 q.2.2) (hq : qok q) :
    Hx (fX8_note σ (x + o) (nI kd) (x + 80)) (fun σ' _ => cM x (sN2 σ x o L) 0 0 σ σ' ∧ SQ σ' x ∧ sI σ' (fid 12 2) (x + o) = nI (L + 1) ∧ (sQ σ' (x + (o + 2)) L ≠ 0 ∧ FX σ' (sQ σ' (x + (o + 2)) L) q.1 q.2.1 q.2.2) ∧ sA σ' (x + (o + 1)) L = nI kd ∧ (∀ j, j ≠ L → sA σ' (x + (o + 1)) j = sA σ (x + (o + 1)) j) ∧ rO σ σ' x (o + 2) L) := by
  obtain ⟨⟨k1, k2, k3, k4, k5⟩, f1, f2⟩ := hx.o ho
  obtain ⟨q1, q2⟩ := hq.n4
  have hT := ho.t
  have ho9 : o = 11 ∨ o = 14 := ho
  have hkT := hx.k104 hT
  have gl : gI σ 12 2 (x + o) = some (nI L) := (sm_gI k1).trans (congrArg some hl)
  -- the end: the fraction is there
  have hend : ∀ (τ : St) (e : Nat), HP (PX x) τ → XS τ x → SQ τ x → sI τ (fid 12 2) (x + o) = nI L → FX τ (x + 80) q.1 q.2.1 q.2.2 → sQ τ (x + (o + 2)) L = e → e ≠ 0 →
      Hx (fX8_note_41 τ (x + o) (nI kd) (x + 80)) (fun σ' _ => cM x (fun r => r = x + o ∨ r = x + (o + 1) ∨ r = e ∨ r = e + 1 ∨ r = e + 3) 0 0 τ σ' ∧ SQ σ' x ∧ sI σ' (fid 12 2) (x + o) = nI (L + 1) ∧ FX σ' e q.1 q.2.1 q.2.2 ∧ sA σ' (x + (o + 1)) L = nI kd ∧ (∀ j, j ≠ L → sA σ' (x + (o + 1)) j = sA τ (x + (o + 1)) j) ∧ ∀ T, tMu T → ∀ j, sQ σ' (x + T) j = sQ τ (x + T) j) := by
    intro τ e hp hx hQ hl hV he he0
    obtain ⟨⟨k1, k2, k3, k4, k5⟩, f1, f2⟩ := hx.o ho
    have hkT := hx.k104 hT
    have gl : gI τ 12 2 (x + o) = some (nI L) := (sm_gI k1).trans (congrArg some hl)
    obtain ⟨hel, hefs, s', n', d', hE⟩ := hQ.1 (o + 2) L hT (by rw [he]; exact he0)
    rw [he] at hel hefs hE
    rw [n_fX8_note_41, f2]
    refine hx_bs ?_
    rw [gl]
    refine hx_bs ?_
    rw [ldQ_ok (ti := 4) hkT (by rw [k4]; exact hL) (by omega), he]
    refine hx_bs ?_
    rw [fx_k hefs]
    refine hx_bs ?_
    refine Hx.bd (cf_setTo hp hE hV (by omega) (rm_of hE.2.2.1 q1) (rm_of hE.2.2.2 q2) (lt_bp q1 (by omega)) (lt_bp q2 (by omega))) (fun σ1 _ h1 => ?_)
    obtain ⟨hF1, hE1⟩ := h1
    have hx1 := hx.kW hF1
    have hQ1 : SQ σ1 x := hQ.set hx hT (i := L) (by rw [he]; exact he0) (by rw [he]; exact hF1) (by rw [he]; exact hE1)
    obtain ⟨⟨l1, l2, l3, l4, l5⟩, g1, g2⟩ := hx1.o ho
    have hl1 : sI σ1 (fid 12 2) (x + o) = nI L := by
      rw [(hF1.sam (by rw [k1]; omega) (Or.inl (by rw [k1]; omega)) (by simp only [s3]; omega)).1]; exact hl
    have a1 : ∀ j, sA σ1 (x + (o + 1)) j = sA τ (x + (o + 1)) j := (hF1.sam (by rw [k2]; omega) (Or.inr k5) (by simp only [s3]; omega)).2.2.1
    rw [g1]
    refine hx_bs ?_
    rw [show gI σ1 12 2 (x + o) = some (nI L) from (sm_gI l1).trans (congrArg some hl1)]
    refine hx_bs ?_
    rw [sm_st l2 (by rw [l3]; exact hL) (by omega)]
    refine hx_bs ?_
    have hF2 := cWa (j := L) (v := nI kd) hF1.hp l2 l5
    have hx2 := hx1.kW hF2
    have hE2 := hE1.kW hF2 (by simp only [s1]; omega)
    have hQ2 := hQ1.st hF2 hx1 (fun r hr => by simp only [s1] at hr; omega)
    have hl2 : sI (wA σ1 (x + (o + 1)) L (nI kd)) (fid 12 2) (x + o) = nI L := hl1
    have b1 : sA (wA σ1 (x + (o + 1)) L (nI kd)) (x + (o + 1)) L = nI kd := sA_wA_eq
    have b2 : ∀ j, j ≠ L → sA (wA σ1 (x + (o + 1)) L (nI kd)) (x + (o + 1)) j = sA τ (x + (o + 1)) j := fun j hj => (sA_wA_j hj).trans (a1 j)
    have l1' : sK (wA σ1 (x + (o + 1)) L (nI kd)) (x + o) = 13 := l1
    generalize wA σ1 (x + (o + 1)) L (nI kd) = σ2 at *
    rw [show gI σ2 12 2 (x + o) = some (nI L) from (sm_gI l1').trans (congrArg some hl2)]
    refine hx_bs ?_
    rw [sm_add, show pI σ2 12 2 (x + o) (nI (L + 1)) = some (wI σ2 (fid 12 2) (x + o) (nI (L + 1))) from sm_pI l1']
    refine hx_bs ?_
    have hF3 := cWi (f := fid 12 2) (v := nI (L + 1)) hF2.hp (show sK σ2 (x + o) ≠ 8 by omega) (show sK σ2 (x + o) ≠ 100 by omega)
    have hF13 := ((hF1.mo (S' := fun r => r = x + o ∨ r = x + (o + 1) ∨ r = e ∨ r = e + 1 ∨ r = e + 3) (fun r _ hr => by simp only [s3] at hr ⊢; omega) (Nat.le_refl _) (Nat.le_refl _)).tr0 hF2 (fun r _ hr => by simp only [s1] at hr ⊢; omega)).tr0 hF3 (fun r _ hr => by simp only [s1] at hr ⊢; omega)
    have hS : ∀ T, tMu T → ¬ (x + T = x + o ∨ x + T = x + (o + 1) ∨ x + T = e ∨ x + T = e + 1 ∨ x + T = e + 3) := fun T hT' => by
      rcases hT' with rfl | rfl | rfl <;> omega
    exact Hx.ret ⟨hF13.toM hx hS, hQ2.st hF3 hx2 (fun r hr => by simp only [s1] at hr; omega), sI_wI_eq, hE2.kW hF3 (by simp only [s1]; omega), b1, b2, fun T hT' => hF13.row hx hT' (hS T hT')⟩
  rw [n_fX8_note, gl]
  refine hx_bs ?_
  rw [f1]
  refine hx_bs ?_
  rw [sm_aln k2 ⟨by omega, by omega⟩, k3]
  refine hx_bs ?_
  rw [if_pos (by rw [sm_lt (by omega) (by omega)]; exact hL), f2]
  refine hx_bs ?_
  refine hx_bs ?_
  rw [ldQ_ok (ti := 4) hkT (by rw [k4]; exact hL) (by omega)]
  refine hx_bs ?_
  refine Hx.cs (fun c => ?_) (fun c => ?_)
  · refine hx_bs ?_
    refine hx_bs ?_
    refine hx_nm (hx_nm ?_)
    rw [show ckK (nw 6 0 3 σ) 6 (sz σ) = some () from sm_ckK (by show (if sz σ = sz σ then 6 else _) = 6; rw [if_pos rfl])]
    refine hx_bs ?_
    refine Hx.bd (cf_init hp) (fun σ1 _ h1 => ?_)
    obtain ⟨hF1, hX1⟩ := h1
    obtain ⟨hQ2, hM2, e2, hX2, hz0⟩ := hQ.put hx hT (i := L) (by unfold lT; rw [if_neg (by omega)]; exact hL) c hF1 hX1
    rw [e2]
    refine hx_bs ?_
    have hx1 := hx.kW hF1
    have hk1 := hx1.k104 hT
    have hV1 := hV.kW hF1 ⟨fun h => h, fun h => h, fun h => h⟩
    have hF2 := cWq (j := L) (v := sz σ) hF1.hp (show sK σ1 (x + (o + 2)) ≠ 8 by omega) (show sK σ1 (x + (o + 2)) ≠ 100 by omega)
    have hV2 := hV1.kW hF2 (by simp only [s1]; omega)
    have hx2 := hx1.kW hF2
    have hl2 : sI (wQ σ1 (x + (o + 2)) L (sz σ)) (fid 12 2) (x + o) = nI L := by
      show sI σ1 (fid 12 2) (x + o) = nI L
      rw [(hF1.sam (by rw [k1]; omega) (Or.inl (by rw [k1]; omega)) (fun h => h)).1]; exact hl
    have a2 : ∀ j, sA (wQ σ1 (x + (o + 2)) L (sz σ)) (x + (o + 1)) j = sA σ (x + (o + 1)) j := (hF1.sam (by rw [k2]; omega) (Or.inr k5) (fun h => h)).2.2.1
    have eT : sQ (wQ σ1 (x + (o + 2)) L (sz σ)) (x + (o + 2)) L = sz σ := sQ_wQ_eq
    have rO2 : rO σ (wQ σ1 (x + (o + 2)) L (sz σ)) x (o + 2) L := fun T hT' j hj => by
      have : sQ (wQ σ1 (x + (o + 2)) L (sz σ)) (x + T) j = sQ σ1 (x + T) j := if_neg (fun q => hj ⟨by omega, q.2⟩)
      rw [this]
      exact hF1.row hx hT' (fun h => h) j
    generalize wQ σ1 (x + (o + 2)) L (sz σ) = σ2 at *
    refine Hx.mo (hend σ2 (sz σ) hM2.hp hx2 hQ2 hl2 hV2 eT hz0) (fun σ3 _ h3 => ?_)
    obtain ⟨g1, g2, g3, g4, g5, g6, g7⟩ := h3
    refine ⟨(hM2.mo (S' := sN2 σ x o L) (fun r _ hr => by simp only [s1, sN2] at hr ⊢; omega) (Nat.le_refl _) (Nat.le_refl _)).tr0 g1 (fun r hr hs => by simp only [sN2] at hs ⊢; omega), g2, g3, ?_, g5, fun j hj => by rw [g6 j hj, a2], fun T hT' j hj => by rw [g7 T hT', rO2 T hT' j hj]⟩
    rw [g7 _ hT, eT]
    exact ⟨hz0, g4⟩
  · refine Hx.mo (hend σ _ hp hx hQ hl hV rfl c) (fun σ3 _ h3 => ?_)
    obtain ⟨g1, g2, g3, g4, g5, g6, g7⟩ := h3
    refine ⟨g1.mo (fun r _ hr => ?_) (Nat.le_refl _) (Nat.le_refl _), g2, g3, ?_, g5, g6, fun T hT' j _ => g7 T hT' j⟩
    · unfold sN2 fc
      omega
    · rw [g7 _ hT]
      exact ⟨c, g4⟩
