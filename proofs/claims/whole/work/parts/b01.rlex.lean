/-! ===== the reference's tokens ===== -/
def RTx (σ : St) (m : Nat) (t : List Nat) : Prop := (Fi σ m 8 (nI t.length) ∧ t.length ≤ 200) ∧ (∀ i b, t[i]? = some b → sA σ (m + 5) i = nI b) ∧ ∀ b ∈ t, 0 < b ∧ b < 256
theorem RTx.keep {σ σ' : St} {m : Nat} {t : List Nat} {F A : List Nat} {V : Nat → Prop} (h : RTx σ m t) (hR : rfM m F A V σ σ') (h8 : 8 ∉ F) (h5 : 5 ∉ A) : RTx σ' m t :=
  ⟨⟨h.1.1.keep hR h8, h.1.2⟩, fun i b hb => by rw [hR.ar 5 ⟨h5, by omega, by omega⟩]; exact h.2.1 i b hb, h.2.2⟩
theorem RTx.b {σ : St} {m : Nat} {t : List Nat} (h : RTx σ m t) (i : Nat) : tb t i < 256 := by
  by_cases c : i < t.length
  · exact (h.2.2 _ (List.mem_of_getElem? (tb_lt c))).2
  · rw [tb_n (by omega)]; omega
theorem RTx.g {σ : St} {m : Nat} {t : List Nat} (h : RTx σ m t) (hm : MS σ m) : gI σ 16 8 m = some (nI t.length) := (rf_gI hm).trans (congrArg some h.1.1)
theorem RTx.l {σ : St} {m i : Nat} {t : List Nat} (h : RTx σ m t) (hm : MS σ m) (hi : i < t.length) : ldI σ (m + 5) (nI i) = some (nI (tb t i)) := by
  have := h.1.2
  rw [ld_tape hm (by omega), h.2.1 i _ (tb_lt hi)]
theorem rt_hasByte {σ : St} {m i b : Nat} {t : List Nat} (hm : MS σ m) (h : RTx σ m t) (hi : i < 2147483648) (hb : 0 < b) (hb2 : b < 256) : fX12_hasByte σ m (nI i) (nI b) = some (σ, nI (if tb t i = b then 1 else 0)) := by
  have hl := h.1.2
  have hbb := h.b i
  apply hx_eq
  try rw [n_fX12_hasByte, h.g hm]
  refine hx_bs (Hx.ce (sm_le (by omega) (by omega)) (fun c => ?_) (fun c => ?_))
  · rw [if_neg (by rw [tb_n c]; omega)]; exact Hx.ret ⟨rfl, rfl⟩
  · try rw [rf_tape hm]
    refine hx_bs ?_
    try rw [h.l hm (by omega)]
    refine hx_bs (Hx.ce (sm_eq (by omega) (by omega)) (fun c2 => ?_) (fun c2 => ?_))
    · rw [if_pos c2]; exact Hx.ret ⟨rfl, rfl⟩
    · rw [if_neg c2]; exact Hx.ret ⟨rfl, rfl⟩
theorem rt_isDigit {σ : St} {b : Nat} (hb : b < 256) : fX12_isDigit σ (nI b) = some (σ, nI (if isD b = true then 1 else 0)) := by
  apply hx_eq
  try rw [n_fX12_isDigit, rf_inN (by omega) (by omega) (by omega)]
  refine hx_cs ?_
  have e : (48 ≤ b ∧ b ≤ 57) = (isD b = true) := propext isD_i.symm
  simp only [e]
  have hz : ckZ (nI (if isD b = true then 1 else 0)) = some () := by
    split
    · exact ckZ1
    · exact ckZ0
  try rw [hz]
  exact hx_bs (Hx.ret ⟨rfl, rfl⟩)
theorem rt_hasDigit {σ : St} {m i : Nat} {t : List Nat} (hm : MS σ m) (h : RTx σ m t) (hi : i < 2147483648) : fX12_hasDigit σ m (nI i) = some (σ, nI (if isD (tb t i) = true then 1 else 0)) := by
  have hl := h.1.2
  have hbb := h.b i
  apply hx_eq
  try rw [n_fX12_hasDigit, h.g hm]
  refine hx_bs (Hx.ce (sm_le (by omega) (by omega)) (fun c => ?_) (fun c => ?_))
  · rw [tb_n c, if_neg (by decide)]; exact Hx.ret ⟨rfl, rfl⟩
  · try rw [rf_tape hm]
    refine hx_bs ?_
    try rw [h.l hm (by omega)]
    refine hx_bs ?_
    try rw [rt_isDigit hbb]
    refine hx_cs (Hx.ce nb0 (fun c2 => ?_) (fun c2 => ?_))
    · rw [if_neg c2]; exact Hx.ret ⟨rfl, rfl⟩
    · rw [if_pos (Classical.not_not.mp c2)]; exact Hx.ret ⟨rfl, rfl⟩
theorem rt_endOfDigits_2 {σ : St} {m : Nat} {t : List Nat} (hm : MS σ m) (h : RTx σ m t) : ∀ (n p : Nat), t.length - p < n → p ≤ t.length → fX12_endOfDigits_2 n σ m (nI p) = some (σ, nI (ew isD t p)) := by
  have hl := h.1.2
  intro n
  induction n with
  | zero => intro p h; omega
  | succ n ih =>
    intro p hn hp
    apply hx_eq
    try rw [n_fX12_endOfDigits_2, rf_ck hm]
    refine hx_bs ?_
    try rw [rt_hasDigit hm h (by omega)]
    refine hx_cs (Hx.ce nb0 (fun c => ?_) (fun c => ?_))
    · by_cases d : p < t.length
      · rw [ew_n d c]; exact Hx.ret ⟨rfl, rfl⟩
      · rw [ew_e (by omega)]; exact Hx.ret ⟨rfl, rfl⟩
    · have c := Classical.not_not.mp c
      have d : p < t.length := by
        have := isD_i.mp c
        exact tb_at (b := tb t p) rfl (by omega)
      refine hx_nm ?_
      rw [sm_add, ew_y d c, ih (p + 1) (by omega) (by omega)]
      exact Hx.ret ⟨rfl, rfl⟩
theorem rt_endOfDigits {σ : St} {m p : Nat} {t : List Nat} (hm : MS σ m) (h : RTx σ m t) (hp : p ≤ t.length) : fX12_endOfDigits σ m (nI p) = some (σ, nI (ew isD t p)) := by
  have hl := h.1.2
  rw [n_fX12_endOfDigits]
  exact rt_endOfDigits_2 hm h FU p (by show t.length - p < 4294967296; omega) hp
theorem fl_and {p q : Prop} {dp : Decidable p} {dq : Decidable q} : nI (@ite _ p dp 1 0) &&& nI (@ite _ q dq 1 0) = nI (@ite _ (p ∧ q) (Classical.propDecidable _) 1 0) := by
  by_cases c1 : p
  · by_cases c2 : q
    · rw [if_pos c1, if_pos c2, if_pos ⟨c1, c2⟩]; rfl
    · rw [if_pos c1, if_neg c2, if_neg (fun h => c2 h.2)]; rfl
  · by_cases c2 : q
    · rw [if_neg c1, if_pos c2, if_neg (fun h => c1 h.1)]; rfl
    · rw [if_neg c1, if_neg c2, if_neg (fun h => c1 h.1)]; rfl
abbrev FT : List Nat := [10, 11, 12, 13, 14, 15, 16]
theorem fi_wI {σ : St} {m f : Nat} {v : Int32} : Fi (wI σ (fid 16 f) m v) m f v := sI_wI_eq
theorem fi_wn {σ : St} {m f g : Nat} {v u : Int32} (h : Fi σ m g u) (hne : g ≠ f) : Fi (wI σ (fid 16 f) m v) m g u := (sI_wI_f (fun e => hne (fid_inj e))).trans h
theorem fi_g {σ : St} {m f : Nat} {v : Int32} (hm : MS σ m) (h : Fi σ m f v) : gI σ 16 f m = some v := (rf_gI hm).trans (congrArg some h)
theorem ms_wI {σ : St} {m f : Nat} {v : Int32} (hm : MS σ m) : MS (wI σ (fid 16 f) m v) m := hm
theorem rn_151 {σ : St} {m k : Nat} {P : Prop} {dP : Decidable P} (hm : MS σ m) : Hx (fX12_readsNumber_151 σ m (nI k) (nI (@ite _ P dP 1 0))) (fun σ' _ => rfM m FT [] nV σ σ' ∧ Fi σ' m 16 (nI k) ∧ Fi σ' m 13 (nI k) ∧ (P → Fi σ' m 10 (nI 2)) ∧ (¬ P → Fi σ' m 10 (nI 4)) ∧ (∀ f, f ≠ 10 → f ≠ 13 → f ≠ 16 → sI σ' (fid 16 f) m = sI σ (fid 16 f) m)) := by
  have key : ∀ v : Int32, Hx (fX12_readsNumber_166 (wI σ (fid 16 16) m (nI k)) m (nI k) m v) (fun σ' _ => rfM m FT [] nV σ σ' ∧ Fi σ' m 16 (nI k) ∧ Fi σ' m 13 (nI k) ∧ Fi σ' m 10 v ∧ (∀ f, f ≠ 10 → f ≠ 13 → f ≠ 16 → sI σ' (fid 16 f) m = sI σ (fid 16 f) m)) := by
    intro v
    try rw [n_fX12_readsNumber_166, rf_pI (ms_wI hm)]
    refine hx_bs ?_
    try rw [rf_pI (ms_wI (ms_wI hm))]
    refine hx_bs (Hx.ret ⟨((rfM.wI (by decide)).tr (rfM.wI (by decide))).tr (rfM.wI (by decide)), fi_wn (fi_wn fi_wI (by decide)) (by decide), fi_wI, fi_wn fi_wI (by decide), fun f h1 h2 h3 => ?_⟩)
    rw [sI_wI_f (fun e => h2 (fid_inj e)), sI_wI_f (fun e => h1 (fid_inj e)), sI_wI_f (fun e => h3 (fid_inj e))]
  try rw [n_fX12_readsNumber_151, rf_pI hm]
  refine hx_bs (Hx.ce nb0 (fun c => ?_) (fun c => ?_))
  · exact Hx.mo (key (nI 4)) (fun σ' _ h => ⟨h.1, h.2.1, h.2.2.1, fun q => absurd q c, fun _ => h.2.2.2.1, h.2.2.2.2⟩)
  · exact Hx.mo (key (nI 2)) (fun σ' _ h => ⟨h.1, h.2.1, h.2.2.1, fun _ => h.2.2.2.1, fun q => absurd q c, h.2.2.2.2⟩)
/-- the fields of a number that was read -/
def NbF (σ : St) (m : Nat) (t : List Nat) (s e : Nat) : Prop := Fi σ m 14 (nI (ew isD t s)) ∧ Fi σ m 15 (nI (if tb t (ew isD t s) = 46 then ew isD t (ew isD t s + 1) else ew isD t s)) ∧ Fi σ m 16 (nI e)
def NbP (m : Nat) (t : List Nat) (s : Nat) (σ0 σ' : St) : Prop := rfM m FT [] nV σ0 σ' ∧ sI σ' (fid 16 11) m = sI σ0 (fid 16 11) m ∧ match eN t s with
  | none => Fi σ' m 10 (nI 4)
  | some e => Fi σ' m 10 (nI 2) ∧ Fi σ' m 13 (nI e) ∧ NbF σ' m t s e
theorem rn_fin {σ0 σ : St} {m k s : Nat} {t : List Nat} {P : Prop} {dP : Decidable P} (hm : MS σ m) (hR : rfM m FT [] nV σ0 σ) (h11 : sI σ (fid 16 11) m = sI σ0 (fid 16 11) m) (h14 : Fi σ m 14 (nI (ew isD t s))) (h15 : Fi σ m 15 (nI (if tb t (ew isD t s) = 46 then ew isD t (ew isD t s + 1) else ew isD t s))) (he : eN t s = if P then some k else none) :
    Hx (fX12_readsNumber_151 σ m (nI k) (nI (@ite _ P dP 1 0))) (fun σ' _ => NbP m t s σ0 σ') := by
  refine Hx.mo (rn_151 hm) (fun σ' _ h => ?_)
  obtain ⟨h1, h2, h3, h4, h5, h6⟩ := h
  refine ⟨hR.tr h1, (h6 11 (by decide) (by decide) (by decide)).trans h11, ?_⟩
  rw [he]
  by_cases c : P
  · rw [if_pos c]
    exact ⟨h4 c, h3, (h6 14 (by decide) (by decide) (by decide)).trans h14, (h6 15 (by decide) (by decide) (by decide)).trans h15, h2⟩
  · rw [if_neg c]
    exact h5 c
theorem rn_70 {σ0 σ : St} {m s : Nat} {t : List Nat} {P Q : Prop} {dP : Decidable P} {dQ : Decidable Q} (hm : MS σ m) (h : RTx σ m t) (hR : rfM m FT [] nV σ0 σ) (h11 : sI σ (fid 16 11) m = sI σ0 (fid 16 11) m) (h14 : Fi σ m 14 (nI (ew isD t s))) (h46 : tb t (ew isD t s) = 46) (hP : P ↔ ew isD t s - s ≤ 12) (hQ : Q ↔ ew isD t (ew isD t s + 1) - (ew isD t s + 1) ≤ 6) :
    Hx (fX12_readsNumber_70 σ m (nI (ew isD t (ew isD t s + 1))) (nI (ew isD t s + 1)) (nI (@ite _ P dP 1 0)) (nI (@ite _ Q dQ 1 0))) (fun σ' _ => NbP m t s σ0 σ') := by
  have hl := h.1.2
  have a4 := tb_at h46 (by omega)
  have a5 : ew isD t s + 1 ≤ ew isD t (ew isD t s + 1) := ew_ge
  have a6 : ew isD t (ew isD t s + 1) ≤ t.length := ew_le (by omega)
  have h15 : Fi (wI σ (fid 16 15) m (nI (ew isD t (ew isD t s + 1)))) m 15 (nI (if tb t (ew isD t s) = 46 then ew isD t (ew isD t s + 1) else ew isD t s)) := by rw [if_pos h46]; exact fi_wI
  have h14' : Fi (wI σ (fid 16 15) m (nI (ew isD t (ew isD t s + 1)))) m 14 (nI (ew isD t s)) := fi_wn h14 (by decide)
  have hR1 := hR.tr (rfM.wI (f := 15) (F := FT) (A := []) (V := nV) (v := nI (ew isD t (ew isD t s + 1))) (by decide))
  have h11' : sI (wI σ (fid 16 15) m (nI (ew isD t (ew isD t s + 1)))) (fid 16 11) m = sI σ0 (fid 16 11) m := (sI_wI_f (by decide)).trans h11
  have h1 : RTx (wI σ (fid 16 15) m (nI (ew isD t (ew isD t s + 1)))) m t := h.keep (rfM.wI (F := FT) (A := []) (V := nV) (by decide)) (by decide) (by decide)
  have hm1 : MS (wI σ (fid 16 15) m (nI (ew isD t (ew isD t s + 1)))) m := ms_wI hm
  rw [n_fX12_readsNumber_70]
  refine hx_nm ?_
  try rw [fl_and, rf_pI hm]
  refine hx_bs ?_
  try rw [rf_ck hm1]
  refine hx_bs ?_
  rw [rt_hasByte hm1 h1 (by omega) (by omega) (by omega)]
  have heN : eN t s = if 12 < ew isD t s - s then none else if 7 < ew isD t (ew isD t s + 1) - ew isD t s then none else if tb t (ew isD t (ew isD t s + 1)) ≠ 91 then (if ew isD t (ew isD t s + 1) = ew isD t s + 1 then none else some (ew isD t (ew isD t s + 1))) else
      if ew isD t (ew isD t (ew isD t s + 1) + 1) = ew isD t (ew isD t s + 1) + 1 then none else if 7 < ew isD t (ew isD t (ew isD t s + 1) + 1) - ew isD t (ew isD t s + 1) then none else if tb t (ew isD t (ew isD t (ew isD t s + 1) + 1)) ≠ 93 then none else some (ew isD t (ew isD t (ew isD t s + 1) + 1) + 1) := by
    unfold eN
    rw [show (if tb t (ew isD t s) ≠ 46 then some (ew isD t s) else if 7 < ew isD t (ew isD t s + 1) - ew isD t s then none else if tb t (ew isD t (ew isD t s + 1)) ≠ 91 then (if ew isD t (ew isD t s + 1) = ew isD t s + 1 then none else some (ew isD t (ew isD t s + 1))) else
      if ew isD t (ew isD t (ew isD t s + 1) + 1) = ew isD t (ew isD t s + 1) + 1 then none else if 7 < ew isD t (ew isD t (ew isD t s + 1) + 1) - ew isD t (ew isD t s + 1) then none else if tb t (ew isD t (ew isD t (ew isD t s + 1) + 1)) ≠ 93 then none else some (ew isD t (ew isD t (ew isD t s + 1) + 1) + 1)) = _ from if_neg (fun q => q h46)]
  refine hx_cs (Hx.ce nb0 (fun c => ?_) (fun c => ?_))
  · refine Hx.ce (sm_le (by omega) (by omega)) (fun c2 => ?_) (fun c2 => ?_)
    · rw [n_fX12_readsNumber_149]
      refine hx_nm ?_
      rw [show nI 0 = nI (@ite _ False (Classical.propDecidable _) 1 0) from by rw [if_neg (fun q => q)], fl_and]
      refine rn_fin hm1 hR1 h11' h14' h15 ?_
      rw [heN, if_neg (show ¬ ((P ∧ Q) ∧ False) from fun q => q.2)]
      split
      · rfl
      split
      · rfl
      rw [if_pos (by omega)]
    · rw [n_fX12_readsNumber_149]
      refine hx_nm ?_
      rw [show nI 1 = nI (@ite _ True (Classical.propDecidable _) 1 0) from by rw [if_pos trivial], fl_and]
      refine rn_fin hm1 hR1 h11' h14' h15 ?_
      rw [heN]
      by_cases d1 : 12 < ew isD t s - s
      · rw [if_pos d1, if_neg (fun q => by have := hP.mp q.1.1; omega)]
      rw [if_neg d1]
      by_cases d2 : 7 < ew isD t (ew isD t s + 1) - ew isD t s
      · rw [if_pos d2, if_neg (fun q => by have := hQ.mp q.1.2; omega)]
      rw [if_neg d2, if_pos c, if_neg (by omega), if_pos ⟨⟨hP.mpr (by omega), hQ.mpr (by omega)⟩, trivial⟩]
  · have c := Classical.not_not.mp c
    have a7 := tb_at c (by omega)
    have a8 : ew isD t (ew isD t s + 1) + 1 ≤ ew isD t (ew isD t (ew isD t s + 1) + 1) := ew_ge
    have a9 : ew isD t (ew isD t (ew isD t s + 1) + 1) ≤ t.length := ew_le (by omega)
    try rw [rf_ck hm1]
    refine hx_bs ?_
    try rw [sm_add, rt_endOfDigits hm1 h1 (by omega)]
    refine hx_cs ?_
    rw [sm_sub (by omega), sm_sub (by omega), rf_inN (by omega) (by omega) (by omega)]
    have fals : ∀ (R : Prop), (R → False) → (ew isD t s - s ≤ 12 → ew isD t (ew isD t s + 1) - (ew isD t s + 1) ≤ 6 → eN t s = none) → Hx (fX12_readsNumber_128 (wI σ (fid 16 15) m (nI (ew isD t (ew isD t s + 1)))) m (nI (ew isD t (ew isD t (ew isD t s + 1) + 1))) (nI (@ite _ (P ∧ Q) (Classical.propDecidable _) 1 0)) (nI 0)) (fun σ' _ => NbP m t s σ0 σ') := by
      intro R hR0 hno
      rw [n_fX12_readsNumber_128]
      refine hx_nm (hx_nm ?_)
      rw [show nI 0 = nI (@ite _ False (Classical.propDecidable _) 1 0) from by rw [if_neg (fun q => q)], fl_and, sm_add]
      refine rn_fin hm1 hR1 h11' h14' h15 ?_
      rw [if_neg (fun q => q.2)]
      by_cases d1 : 12 < ew isD t s - s
      · rw [heN, if_pos d1]
      by_cases d2 : 7 < ew isD t (ew isD t s + 1) - ew isD t s
      · rw [heN, if_neg d1, if_pos d2]
      · exact hno (by omega) (by omega)
    refine hx_cs (Hx.ce nb0 (fun c2 => ?_) (fun c2 => ?_))
    · rw [n_fX12_readsNumber_127]
      refine fals False (fun q => q) (fun e1 e2 => ?_)
      rw [heN, if_neg (by omega), if_neg (by omega), if_neg (fun q => q c)]
      by_cases d3 : ew isD t (ew isD t (ew isD t s + 1) + 1) = ew isD t (ew isD t s + 1) + 1
      · rw [if_pos d3]
      · rw [if_neg d3, if_pos (by omega)]
    · try rw [rf_ck hm1]
      refine hx_bs ?_
      try rw [rt_hasByte hm1 h1 (by omega) (by omega) (by omega)]
      refine hx_cs (Hx.ce nb0 (fun c3 => ?_) (fun c3 => ?_))
      · rw [n_fX12_readsNumber_127]
        refine fals False (fun q => q) (fun e1 e2 => ?_)
        rw [heN, if_neg (by omega), if_neg (by omega), if_neg (fun q => q c), if_neg (by omega), if_neg (by omega), if_pos c3]
      · have c3 := Classical.not_not.mp c3
        rw [n_fX12_readsNumber_128]
        refine hx_nm (hx_nm ?_)
        rw [sm_add, show nI 1 = nI (@ite _ True (Classical.propDecidable _) 1 0) from by rw [if_pos trivial], fl_and]
        refine rn_fin hm1 hR1 h11' h14' h15 ?_
        rw [heN]
        by_cases d1 : 12 < ew isD t s - s
        · rw [if_pos d1, if_neg (fun q => by have := hP.mp q.1.1; omega)]
        rw [if_neg d1]
        by_cases d2 : 7 < ew isD t (ew isD t s + 1) - ew isD t s
        · rw [if_pos d2, if_neg (fun q => by have := hQ.mp q.1.2; omega)]
        rw [if_neg d2, if_neg (fun q => q c), if_neg (by omega), if_neg (by omega), if_neg (fun q => q c3), if_pos ⟨⟨hP.mpr (by omega), hQ.mpr (by omega)⟩, trivial⟩]
theorem rn_25 {σ : St} {m s : Nat} {t : List Nat} {P : Prop} {dP : Decidable P} (hm : MS σ m) (h : RTx σ m t) (hs : s ≤ t.length) (hP : P ↔ ew isD t s - s ≤ 12) : Hx (fX12_readsNumber_25 σ m (nI (ew isD t s)) (nI (@ite _ P dP 1 0))) (fun σ' _ => NbP m t s σ σ') := by
  have hl := h.1.2
  have a1 : s ≤ ew isD t s := ew_ge
  have a2 : ew isD t s ≤ t.length := ew_le hs
  have hR : rfM m FT [] nV σ (wI (wI σ (fid 16 14) m (nI (ew isD t s))) (fid 16 15) m (nI (ew isD t s))) := (rfM.wI (by decide)).tr (rfM.wI (by decide))
  have h14 : Fi (wI (wI σ (fid 16 14) m (nI (ew isD t s))) (fid 16 15) m (nI (ew isD t s))) m 14 (nI (ew isD t s)) := fi_wn fi_wI (by decide)
  have h15 : Fi (wI (wI σ (fid 16 14) m (nI (ew isD t s))) (fid 16 15) m (nI (ew isD t s))) m 15 (nI (ew isD t s)) := fi_wI
  have h11 : sI (wI (wI σ (fid 16 14) m (nI (ew isD t s))) (fid 16 15) m (nI (ew isD t s))) (fid 16 11) m = sI σ (fid 16 11) m := (sI_wI_f (by decide)).trans (sI_wI_f (by decide))
  have h1 := h.keep hR (by decide) (by decide)
  have hm1 : MS (wI (wI σ (fid 16 14) m (nI (ew isD t s))) (fid 16 15) m (nI (ew isD t s))) m := hm
  try rw [n_fX12_readsNumber_25, rf_pI hm]
  refine hx_bs ?_
  try rw [rf_pI (ms_wI hm)]
  refine hx_bs ?_
  generalize wI (wI σ (fid 16 14) m (nI (ew isD t s))) (fid 16 15) m (nI (ew isD t s)) = σ1 at *
  try rw [rf_ck hm1]
  refine hx_bs ?_
  try rw [rt_hasByte hm1 h1 (by omega) (by omega) (by omega)]
  refine hx_cs (Hx.ce nb0 (fun c => ?_) (fun c => ?_))
  · refine rn_fin hm1 hR h11 h14 (by rw [if_neg c]; exact h15) ?_
    unfold eN
    by_cases d : 12 < ew isD t s - s
    · rw [if_pos d, if_neg (fun q => by have := hP.mp q; omega)]
    · rw [if_neg d, if_pos c, if_pos (hP.mpr (by omega))]
  · have c := Classical.not_not.mp c
    have a3 := tb_at c (by omega)
    have a5 : ew isD t s + 1 ≤ ew isD t (ew isD t s + 1) := ew_ge
    have a6 : ew isD t (ew isD t s + 1) ≤ t.length := ew_le (by omega)
    refine hx_nm ?_
    try rw [rf_ck hm1]
    refine hx_bs ?_
    try rw [sm_add, rt_endOfDigits hm1 h1 (by omega)]
    refine hx_cs ?_
    rw [sm_sub a5]
    refine Hx.ce (sm_lt (by omega) (by omega)) (fun c2 => ?_) (fun c2 => ?_)
    · rw [show nI 0 = nI (@ite _ False (Classical.propDecidable _) 1 0) from by rw [if_neg (fun q => q)]]
      exact rn_70 hm1 h1 hR h11 h14 c hP ⟨fun q => q.elim, fun q => by omega⟩
    · rw [show nI 1 = nI (@ite _ True (Classical.propDecidable _) 1 0) from by rw [if_pos trivial]]
      exact rn_70 hm1 h1 hR h11 h14 c hP ⟨fun _ => by omega, fun _ => trivial⟩
theorem rt_readsNumber {σ : St} {m s : Nat} {t : List Nat} (hm : MS σ m) (h : RTx σ m t) (hs : s ≤ t.length) (h13 : Fi σ m 13 (nI s)) : Hx (fX12_readsNumber σ m) (fun σ' _ => NbP m t s σ σ') := by
  have hl := h.1.2
  have a1 : s ≤ ew isD t s := ew_ge
  have a2 : ew isD t s ≤ t.length := ew_le hs
  try rw [n_fX12_readsNumber, fi_g hm h13]
  refine hx_bs ?_
  try rw [rf_ck hm]
  refine hx_bs ?_
  try rw [rt_endOfDigits hm h hs]
  refine hx_cs ?_
  try rw [fi_g hm h13]
  refine hx_bs ?_
  rw [sm_sub a1]
  refine Hx.ce (sm_lt (by omega) (by omega)) (fun c => ?_) (fun c => ?_)
  · rw [show nI 0 = nI (@ite _ False (Classical.propDecidable _) 1 0) from by rw [if_neg (fun q => q)]]
    exact rn_25 hm h hs ⟨fun q => q.elim, fun q => by omega⟩
  · rw [show nI 1 = nI (@ite _ True (Classical.propDecidable _) 1 0) from by rw [if_pos trivial]]
    exact rn_25 hm h hs ⟨fun _ => by omega, fun _ => trivial⟩
