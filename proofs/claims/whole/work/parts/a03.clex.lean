/-! ===== the class' Reader: its frame, its tokens ===== -/
/-- of the Reader's int fields those of F, of its rows of ints those of A may be written -/
def rX (x : Nat) (F A : Nat → Prop) (σ σ' : St) : Prop := (sK σ' = sK σ ∧ sF σ' = sF σ ∧ sN σ' = sN σ ∧ sJ σ' = sJ σ ∧ sQ σ' = sQ σ) ∧ (sz σ' = sz σ ∧ sc σ' = sc σ ∧ sw σ' = sw σ) ∧ (∀ f c, ¬ (c = x + 65 ∧ F f) → sI σ' f c = sI σ f c) ∧ ∀ c, (∀ o, A o → c ≠ x + o) → sA σ' c = sA σ c
theorem rX.rf {x : Nat} {F A : Nat → Prop} {σ : St} : rX x F A σ σ := ⟨⟨rfl, rfl, rfl, rfl, rfl⟩, ⟨rfl, rfl, rfl⟩, fun _ _ _ => rfl, fun _ _ => rfl⟩
theorem rX.tr {x : Nat} {F A F' A' : Nat → Prop} {σ σ1 σ2 : St} (h1 : rX x F A σ σ1) (h2 : rX x F' A' σ1 σ2) (hF : ∀ f, F' f → F f) (hA : ∀ o, A' o → A o) : rX x F A σ σ2 := by
  obtain ⟨⟨a1, a2, a3, a4, a5⟩, ⟨a6, a7, a8⟩, a9, a10⟩ := h1
  obtain ⟨⟨b1, b2, b3, b4, b5⟩, ⟨b6, b7, b8⟩, b9, b10⟩ := h2
  exact ⟨⟨b1.trans a1, b2.trans a2, b3.trans a3, b4.trans a4, b5.trans a5⟩, ⟨b6.trans a6, b7.trans a7, b8.trans a8⟩, fun f c h => (b9 f c (fun q => h ⟨q.1, hF f q.2⟩)).trans (a9 f c h), fun c h => (b10 c (fun o q => h o (hA o q))).trans (a10 c h)⟩
theorem rX.mo {x : Nat} {F A F' A' : Nat → Prop} {σ σ1 : St} (h1 : rX x F A σ σ1) (hF : ∀ f, F f → F' f) (hA : ∀ o, A o → A' o) : rX x F' A' σ σ1 := rX.rf.tr h1 hF hA
theorem rX.wI {x k : Nat} {F A : Nat → Prop} {σ : St} {v : Int32} (h : F k) : rX x F A σ (wI σ k (x + 65) v) := ⟨⟨rfl, rfl, rfl, rfl, rfl⟩, ⟨rfl, rfl, rfl⟩, fun f c q => sI_wI_ne (fun e => q ⟨e.2, by rw [e.1]; exact h⟩), fun _ _ => rfl⟩
theorem rX.wA {x o j : Nat} {F A : Nat → Prop} {σ : St} {v : Int32} (h : A o) : rX x F A σ (wA σ (x + o) j v) := ⟨⟨rfl, rfl, rfl, rfl, rfl⟩, ⟨rfl, rfl, rfl⟩, fun _ _ _ => rfl, fun c q => sA_wA_b (q o h)⟩
theorem XS.rX {x : Nat} {F A : Nat → Prop} {σ σ' : St} (h : XS σ x) (hR : rX x F A σ σ') : XS σ' x := by
  obtain ⟨⟨a1, a2, a3, a4, a5⟩, ⟨a6, a7, a8⟩, _⟩ := hR
  unfold XS NL at *
  show (0 < x ∧ x + 144 ≤ sz σ') ∧ _
  unfold lb at *
  rw [a1, a2, a3, a6]
  exact h
theorem rX.i {x : Nat} {F A : Nat → Prop} {σ σ' : St} (hR : rX x F A σ σ') {f : Nat} (h : ¬ F f) : sI σ' f (x + 65) = sI σ f (x + 65) := hR.2.2.1 f _ (fun q => h q.2)
theorem rX.a {x : Nat} {F A : Nat → Prop} {σ σ' : St} (hR : rX x F A σ σ') {o : Nat} (h : ¬ A o) (j : Nat) : sA σ' (x + o) j = sA σ (x + o) j := by
  rw [hR.2.2.2 (x + o) (fun o' q e => h (by rw [show o = o' by omega]; exact q))]
/-- the text that the Reader has -/
def RT (σ : St) (x : Nat) (t : List Nat) : Prop := (sI σ (fid 8 1) (x + 65) = nI t.length ∧ t.length ≤ 200) ∧ (∀ i b, t[i]? = some b → sA σ (x + 66) i = nI b) ∧ ∀ b ∈ t, 0 < b ∧ b < 256
theorem RT.rX {x : Nat} {F A : Nat → Prop} {t : List Nat} {σ σ' : St} (h : RT σ x t) (hR : rX x F A σ σ') (hF : ¬ F (fid 8 1)) (hA : ¬ A 66) : RT σ' x t :=
  ⟨⟨by rw [hR.i hF]; exact h.1.1, h.1.2⟩, fun i b hb => by rw [hR.a hA]; exact h.2.1 i b hb, h.2.2⟩
theorem RT.b {σ : St} {x : Nat} {t : List Nat} (h : RT σ x t) (i : Nat) : tb t i < 256 := by
  by_cases c : i < t.length
  · exact (h.2.2 _ (List.mem_of_getElem? (tb_lt c))).2
  · rw [tb_n (by omega)]; omega
theorem XS.k9 {σ : St} {x : Nat} (hx : XS σ x) : sK σ (x + 65) = 8 + 1 := hx.kd 65 9 (by decide)
theorem XS.c9 {σ : St} {x : Nat} (hx : XS σ x) : ckK σ 9 (x + 65) = some () := sm_ckK (hx.kd 65 9 (by decide))
theorem RT.g1 {σ : St} {x : Nat} {t : List Nat} (h : RT σ x t) (hx : XS σ x) : gI σ 8 1 (x + 65) = some (nI t.length) := (sm_gI hx.k9).trans (congrArg some h.1.1)
theorem cr_byteAt {σ : St} {x i : Nat} {t : List Nat} (h : RT σ x t) (hx : XS σ x) (hi : i < 2147483648) : fX4_byteAt σ (x + 65) (nI i) = some (σ, nI (tb t i)) := by
  have hl := h.1.2
  apply hx_eq
  rw [n_fX4_byteAt]
  refine Hx.ce (sm_lt (by omega) (by omega)) (fun c => absurd c (by omega)) (fun _ => ?_)
  rw [h.g1 hx]
  refine hx_bs (Hx.ce (sm_le (by omega) (by omega)) (fun c => ?_) (fun c => ?_))
  · rw [tb_n c]; exact Hx.ret ⟨rfl, rfl⟩
  · rw [xf_8_0 hx]
    refine hx_bs ?_
    rw [sm_ld (hx.kd 66 100 (by decide)) (by rw [hx.nn 66 200 (by decide)]; omega) (by omega), h.2.1 i _ (tb_lt (by omega))]
    exact hx_bs (Hx.ret ⟨rfl, rfl⟩)
theorem cr_isLetter {σ : St} {x i : Nat} {t : List Nat} (h : RT σ x t) (hx : XS σ x) (hi : i < 2147483648) : fX4_isLetter σ (x + 65) (nI i) = some (σ, nI (if isL (tb t i) = true then 1 else 0)) := by
  have hb := h.b i
  apply hx_eq
  rw [n_fX4_isLetter, hx.c9]
  refine hx_bs ?_
  rw [cr_byteAt h hx hi]
  refine hx_cs (Hx.ce (sm_lt (by omega) (by omega)) (fun c => ?_) (fun c => ?_))
  · rw [if_neg (by rw [isL_i]; omega)]; exact Hx.ret ⟨rfl, rfl⟩
  · rw [hx.c9]
    refine hx_bs ?_
    rw [cr_byteAt h hx hi]
    refine hx_cs (Hx.ce (sm_lt (by omega) (by omega)) (fun c2 => ?_) (fun c2 => ?_))
    · rw [if_neg (by rw [isL_i]; omega)]; exact Hx.ret ⟨rfl, rfl⟩
    · rw [if_pos (by rw [isL_i]; omega)]; exact Hx.ret ⟨rfl, rfl⟩
theorem cr_isDigit {σ : St} {x i : Nat} {t : List Nat} (h : RT σ x t) (hx : XS σ x) (hi : i < 2147483648) : fX4_isDigit σ (x + 65) (nI i) = some (σ, nI (if isD (tb t i) = true then 1 else 0)) := by
  have hb := h.b i
  apply hx_eq
  rw [n_fX4_isDigit, hx.c9]
  refine hx_bs ?_
  rw [cr_byteAt h hx hi]
  refine hx_cs (Hx.ce (sm_lt (by omega) (by omega)) (fun c => ?_) (fun c => ?_))
  · rw [if_neg (by rw [isD_i]; omega)]; exact Hx.ret ⟨rfl, rfl⟩
  · rw [hx.c9]
    refine hx_bs ?_
    rw [cr_byteAt h hx hi]
    refine hx_cs (Hx.ce (sm_lt (by omega) (by omega)) (fun c2 => ?_) (fun c2 => ?_))
    · rw [if_neg (by rw [isD_i]; omega)]; exact Hx.ret ⟨rfl, rfl⟩
    · rw [if_pos (by rw [isD_i]; omega)]; exact Hx.ret ⟨rfl, rfl⟩
theorem cr_endOfWord_2 {σ : St} {x : Nat} {t : List Nat} (h : RT σ x t) (hx : XS σ x) : ∀ (n p : Nat), t.length - p < n → p ≤ t.length → fX4_endOfWord_2 n σ (x + 65) (nI p) = some (σ, nI (ew isL t p)) := by
  have hl := h.1.2
  intro n
  induction n with
  | zero => intro p h; omega
  | succ n ih =>
    intro p hn hp
    apply hx_eq
    rw [n_fX4_endOfWord_2, h.g1 hx]
    refine hx_bs (Hx.ce (sm_le (by omega) (by omega)) (fun c => ?_) (fun c => ?_))
    · rw [ew_e c]; exact Hx.ret ⟨rfl, rfl⟩
    · rw [hx.c9]
      refine hx_bs ?_
      rw [cr_isLetter h hx (by omega)]
      refine hx_cs (Hx.ce nb0 (fun c2 => ?_) (fun c2 => ?_))
      · rw [ew_n (by omega) c2]; exact Hx.ret ⟨rfl, rfl⟩
      · refine hx_nm ?_
        rw [sm_add, ew_y (by omega) (Classical.not_not.mp c2), ih (p + 1) (by omega) (by omega)]
        exact Hx.ret ⟨rfl, rfl⟩
theorem cr_endOfWord {σ : St} {x p : Nat} {t : List Nat} (h : RT σ x t) (hx : XS σ x) (hp : p ≤ t.length) : fX4_endOfWord σ (x + 65) (nI p) = some (σ, nI (ew isL t p)) := by
  have hl := h.1.2
  rw [n_fX4_endOfWord]
  exact cr_endOfWord_2 h hx FU p (by show t.length - p < 4294967296; omega) hp
theorem cr_endOfDigits_2 {σ : St} {x : Nat} {t : List Nat} (h : RT σ x t) (hx : XS σ x) : ∀ (n p : Nat), t.length - p < n → p ≤ t.length → fX4_endOfDigits_2 n σ (x + 65) (nI p) = some (σ, nI (ew isD t p)) := by
  have hl := h.1.2
  intro n
  induction n with
  | zero => intro p h; omega
  | succ n ih =>
    intro p hn hp
    apply hx_eq
    rw [n_fX4_endOfDigits_2, h.g1 hx]
    refine hx_bs (Hx.ce (sm_le (by omega) (by omega)) (fun c => ?_) (fun c => ?_))
    · rw [ew_e c]; exact Hx.ret ⟨rfl, rfl⟩
    · rw [hx.c9]
      refine hx_bs ?_
      rw [cr_isDigit h hx (by omega)]
      refine hx_cs (Hx.ce nb0 (fun c2 => ?_) (fun c2 => ?_))
      · rw [ew_n (by omega) c2]; exact Hx.ret ⟨rfl, rfl⟩
      · refine hx_nm ?_
        rw [sm_add, ew_y (by omega) (Classical.not_not.mp c2), ih (p + 1) (by omega) (by omega)]
        exact Hx.ret ⟨rfl, rfl⟩
theorem cr_endOfDigits {σ : St} {x p : Nat} {t : List Nat} (h : RT σ x t) (hx : XS σ x) (hp : p ≤ t.length) : fX4_endOfDigits σ (x + 65) (nI p) = some (σ, nI (ew isD t p)) := by
  have hl := h.1.2
  rw [n_fX4_endOfDigits]
  exact cr_endOfDigits_2 h hx FU p (by show t.length - p < 4294967296; omega) hp
theorem cr_endOfNumber {σ : St} {x p : Nat} {t : List Nat} (h : RT σ x t) (hx : XS σ x) (hp : p ≤ t.length) : fX4_endOfNumber σ (x + 65) (nI p) = some (σ, iz (oi (eN t p))) := by
  have hl := h.1.2
  have a1 : p ≤ ew isD t p := ew_ge
  have a2 : ew isD t p ≤ t.length := ew_le hp
  apply hx_eq
  rw [n_fX4_endOfNumber, hx.c9]
  refine hx_bs ?_
  rw [cr_endOfDigits h hx hp]
  refine hx_cs ?_
  rw [sm_sub a1]
  unfold eN
  generalize ew isD t p = a at *
  refine Hx.ce (sm_le (by omega) (by omega)) (fun c1 => ?_) (fun c1 => ?_)
  · rw [if_neg (show ¬ 12 < a - p by omega), hx.c9]
    refine hx_bs ?_
    rw [cr_byteAt h hx (by omega)]
    have hb := h.b a
    refine hx_cs (Hx.ce (sm_eq (by omega) (by omega)) (fun c2 => ?_) (fun c2 => ?_))
    · have a3 := tb_at c2 (by omega)
      have a4 : a + 1 ≤ ew isD t (a + 1) := ew_ge
      have a5 : ew isD t (a + 1) ≤ t.length := ew_le (by omega)
      rw [if_neg (fun q => q c2), hx.c9]
      refine hx_bs ?_
      rw [sm_add, cr_endOfDigits h hx (by omega)]
      refine hx_cs ?_
      generalize ew isD t (a + 1) = b at *
      rw [sm_sub (by omega)]
      refine Hx.ce (sm_le (by omega) (by omega)) (fun c3 => ?_) (fun c3 => ?_)
      · rw [if_neg (show ¬ 7 < b - a by omega), hx.c9]
        refine hx_bs ?_
        rw [cr_byteAt h hx (by omega)]
        have hb2 := h.b b
        refine hx_cs (Hx.ce (sm_eq (by omega) (by omega)) (fun c4 => ?_) (fun c4 => ?_))
        · have a6 := tb_at c4 (by omega)
          have a7 : b + 1 ≤ ew isD t (b + 1) := ew_ge
          have a8 : ew isD t (b + 1) ≤ t.length := ew_le (by omega)
          rw [if_neg (fun q => q c4), hx.c9]
          refine hx_bs ?_
          rw [sm_add, cr_endOfDigits h hx (by omega)]
          refine hx_cs ?_
          generalize ew isD t (b + 1) = c at *
          refine Hx.ce (sm_eq (by omega) (by omega)) (fun c5 => ?_) (fun c5 => ?_)
          · rw [if_pos c5]; exact Hx.ret ⟨rfl, rfl⟩
          · rw [if_neg c5, sm_sub (by omega)]
            refine Hx.ce (sm_lt (by omega) (by omega)) (fun c6 => ?_) (fun c6 => ?_)
            · rw [if_pos c6]; exact Hx.ret ⟨rfl, rfl⟩
            · rw [if_neg c6, hx.c9]
              refine hx_bs ?_
              rw [cr_byteAt h hx (by omega)]
              have hb3 := h.b c
              refine hx_cs (Hx.ce (sm_eq (by omega) (by omega)) (fun c7 => ?_) (fun c7 => ?_))
              · rw [if_neg (fun q => q c7), sm_add]; exact Hx.ret ⟨rfl, sm_iz _⟩
              · rw [if_pos c7]; exact Hx.ret ⟨rfl, rfl⟩
        · rw [if_pos c4]
          refine Hx.ce (sm_eq (by omega) (by omega)) (fun c5 => ?_) (fun c5 => ?_)
          · rw [if_pos c5]; exact Hx.ret ⟨rfl, rfl⟩
          · rw [if_neg c5]; exact Hx.ret ⟨rfl, sm_iz _⟩
      · rw [if_pos (show 7 < b - a by omega)]; exact Hx.ret ⟨rfl, rfl⟩
    · rw [if_pos c2]; exact Hx.ret ⟨rfl, sm_iz _⟩
  · rw [if_pos (show 12 < a - p by omega)]; exact Hx.ret ⟨rfl, rfl⟩
theorem cr_tokenFrom_164 {σ : St} {x s : Nat} {t : List Nat} (h : RT σ x t) (hx : XS σ x) (hs : s < 2147483648) : fX4_tokenFrom_164 σ (x + 65) (nI s) = some (σ, nI (tb t s)) := by
  apply hx_eq
  rw [n_fX4_tokenFrom_164, hx.c9]
  refine hx_bs ?_
  rw [cr_byteAt h hx hs]
  exact hx_cs (Hx.ret ⟨rfl, rfl⟩)
theorem oi_m1 {o : Option Nat} (h : ∀ k, o = some k → k < 2147483648) : (iz (oi o) = iz (-1)) = (o = none) := by
  cases o with
  | none => exact propext ⟨fun _ => rfl, fun _ => rfl⟩
  | some k =>
    have := h k rfl
    show (iz (k : Int) = iz (-1)) = _
    rw [iz_eq (by omega) (by omega) (by omega) (by omega)]
    exact propext ⟨fun h => by omega, fun h => by cases h⟩
theorem cr_tokenFrom {σ : St} {x s : Nat} {t : List Nat} (h : RT σ x t) (hx : XS σ x) (hs : s ≤ t.length) : fX4_tokenFrom σ (x + 65) (nI s) = some (σ, nI (lxs t s).1) := by
  have hl := h.1.2
  have hb := h.b s
  apply hx_eq
  rw [n_fX4_tokenFrom, h.g1 hx]
  unfold lxs
  refine hx_bs (Hx.ce (sm_lt (by omega) (by omega)) (fun c1 => ?_) (fun c1 => ?_))
  · rw [if_neg (show ¬ t.length ≤ s by omega), hx.c9]
    refine hx_bs ?_
    rw [cr_isLetter h hx (by omega)]
    refine hx_cs (Hx.ce nb0 (fun c2 => ?_) (fun c2 => ?_))
    · rw [if_neg c2, hx.c9]
      refine hx_bs ?_
      rw [cr_isDigit h hx (by omega)]
      refine hx_cs (Hx.ce nb0 (fun c3 => ?_) (fun c3 => ?_))
      · rw [if_neg c3, hx.c9]
        refine hx_bs ?_
        rw [cr_byteAt h hx (by omega)]
        refine hx_cs ?_
        have key : sgb (tb t s) → Hx (fX4_tokenFrom_164 σ (x + 65) (nI s)) (fun σ' v' => σ' = σ ∧ v' = nI (if sgn (tb t s) = true then (tb t s, 0, s, s + 1) else ((3, 0, s, s) : Tok)).1) := by
          intro q
          rw [if_pos (sgn_i.mpr q), cr_tokenFrom_164 h hx (by omega)]
          exact Hx.ret ⟨rfl, rfl⟩
        unfold sgb at key
        refine Hx.ce (sm_eq (by omega) (by omega)) (fun c => key (by omega)) (fun d1 => ?_)
        refine Hx.ce (sm_eq (by omega) (by omega)) (fun c => key (by omega)) (fun d2 => ?_)
        refine Hx.ce (sm_eq (by omega) (by omega)) (fun c => key (by omega)) (fun d3 => ?_)
        refine Hx.ce (sm_eq (by omega) (by omega)) (fun c => key (by omega)) (fun d4 => ?_)
        refine Hx.ce (sm_eq (by omega) (by omega)) (fun c => key (by omega)) (fun d5 => ?_)
        refine Hx.ce (sm_eq (by omega) (by omega)) (fun c => key (by omega)) (fun d6 => ?_)
        refine Hx.ce (sm_eq (by omega) (by omega)) (fun c => key (by omega)) (fun d7 => ?_)
        refine Hx.ce (sm_eq (by omega) (by omega)) (fun c => key (by omega)) (fun d8 => ?_)
        refine Hx.ce (sm_eq (by omega) (by omega)) (fun c => key (by omega)) (fun d9 => ?_)
        refine Hx.ce (sm_eq (by omega) (by omega)) (fun c => key (by omega)) (fun d10 => ?_)
        refine Hx.ce (sm_eq (by omega) (by omega)) (fun c => key (by omega)) (fun d11 => ?_)
        rw [if_neg (fun q => by have := sgn_i.mp q; unfold sgb at this; omega)]
        exact Hx.ret ⟨rfl, rfl⟩
      · have c3 := Classical.not_not.mp c3
        rw [if_pos c3, hx.c9]
        refine hx_bs ?_
        rw [cr_endOfNumber h hx (by omega)]
        have hk : ∀ k, eN t s = some k → k < 2147483648 := fun k hk => by
          have := (eN_b c1 c3 hk).2
          omega
        refine hx_cs (Hx.ce (oi_m1 hk) (fun c4 => ?_) (fun c4 => ?_))
        · rw [c4]; exact Hx.ret ⟨rfl, rfl⟩
        · cases he : eN t s with
          | none => exact absurd he c4
          | some e => exact Hx.ret ⟨rfl, rfl⟩
    · have c2 := Classical.not_not.mp c2
      have a1 : s ≤ ew isL t s := ew_ge
      have a2 : ew isL t s ≤ t.length := ew_le hs
      rw [if_pos c2, hx.c9]
      refine hx_bs ?_
      rw [cr_endOfWord h hx hs]
      refine hx_cs ?_
      rw [sm_sub a1]
      refine Hx.ce (sm_le (by omega) (by omega)) (fun c3 => ?_) (fun c3 => ?_)
      · rw [if_neg (show ¬ 6 < ew isL t s - s by omega)]; exact Hx.ret ⟨rfl, rfl⟩
      · rw [if_pos (show 6 < ew isL t s - s by omega)]; exact Hx.ret ⟨rfl, rfl⟩
  · rw [if_pos (show t.length ≤ s by omega)]; exact Hx.ret ⟨rfl, rfl⟩
theorem cr_wordFrom_4 {σ : St} {x s : Nat} {t : List Nat} (h : RT σ x t) (hx : XS σ x) (hs : s ≤ t.length) : ∀ (n k p w : Nat), k < n → k + p = s + 6 → w < 27 ^ (6 - k) → k ≤ 6 → fX4_wordFrom_4 n σ (x + 65) (nI s) (nI w) (nI p) = some (σ, nI (wvf t k p w)) := by
  have hl := h.1.2
  intro n
  induction n with
  | zero => intro k p w h; omega
  | succ n ih =>
    intro k p w hn hk hw hk6
    apply hx_eq
    rw [n_fX4_wordFrom_4, sm_add]
    refine Hx.ce (sm_le (by omega) (by omega)) (fun c1 => ?_) (fun c1 => ?_)
    · obtain rfl : k = 0 := by omega
      exact Hx.ret ⟨rfl, rfl⟩
    · obtain ⟨j, rfl⟩ : ∃ j, k = j + 1 := ⟨k - 1, by omega⟩
      unfold wvf
      rw [hx.c9]
      refine hx_bs ?_
      rw [cr_isLetter h hx (by omega)]
      refine hx_cs (Hx.ce nb0 (fun c2 => ?_) (fun c2 => ?_))
      · rw [if_neg (fun q => c2 q.2)]; exact Hx.ret ⟨rfl, rfl⟩
      · have c2 := Classical.not_not.mp c2
        have c3 := isL_i.mp c2
        have c4 : p < t.length := tb_at (b := tb t p) rfl (by omega)
        rw [if_pos ⟨c4, c2⟩, hx.c9]
        refine hx_bs ?_
        rw [cr_byteAt h hx (by omega)]
        refine hx_cs (hx_nm (hx_nm ?_))
        have hw2 : w < 27 ^ 5 := Nat.lt_of_lt_of_le hw (Nat.pow_le_pow_right (by omega) (by omega))
        rw [sm_mul, sm_add, sm_sub (by omega), sm_add, sm_add, show w * 27 + tb t p - 97 + 1 = 27 * w + (tb t p - 96) by omega]
        rw [ih j (p + 1) _ (by omega) (by omega) (by rw [show 6 - j = 6 - (j + 1) + 1 by omega, Nat.pow_succ]; omega) (by omega)]
        exact Hx.ret ⟨rfl, rfl⟩
theorem cr_wordFrom {σ : St} {x s : Nat} {t : List Nat} (h : RT σ x t) (hx : XS σ x) (hs : s ≤ t.length) : fX4_wordFrom σ (x + 65) (nI s) = some (σ, nI (wvf t 6 s 0)) := by
  rw [n_fX4_wordFrom]
  exact cr_wordFrom_4 h hx hs FU 6 s 0 (by decide) (by omega) (by decide) (by omega)
theorem lxs_1 {t : List Nat} {s : Nat} (h : (lxs t s).1 = 1) : (lxs t s).2.1 = wvf t 6 s 0 ∧ (lxs t s).2.2.2 = ew isL t s := by
  unfold lxs at h ⊢
  split
  · rename_i c; rw [if_pos c] at h; cases h
  rename_i c0
  rw [if_neg c0] at h
  split
  · rename_i c; rw [if_pos c] at h
    split
    · rename_i c1; rw [if_pos c1] at h; cases h
    · exact ⟨rfl, rfl⟩
  rename_i c
  rw [if_neg c] at h
  split
  · rename_i c1; rw [if_pos c1] at h
    cases he : eN t s with
    | none => rw [he] at h; cases h
    | some e => rw [he] at h; cases h
  rename_i c1
  rw [if_neg c1] at h
  split
  · rename_i c2; rw [if_pos c2] at h
    have := sgn_i.mp c2
    unfold sgb at this
    have h9 : tb t s = 1 := h
    omega
  · rename_i c2; rw [if_neg c2] at h; cases h
theorem lxs_2 {t : List Nat} {s : Nat} (h : (lxs t s).1 = 2) : eN t s = some (lxs t s).2.2.2 ∧ isD (tb t s) = true ∧ s < t.length := by
  unfold lxs at h ⊢
  split
  · rename_i c; rw [if_pos c] at h; cases h
  rename_i c0
  rw [if_neg c0] at h
  split
  · rename_i c; rw [if_pos c] at h
    split
    · rename_i c1; rw [if_pos c1] at h; cases h
    · rename_i c1; rw [if_neg c1] at h; cases h
  rename_i c
  rw [if_neg c] at h
  split
  · rename_i c1; rw [if_pos c1] at h
    cases he : eN t s with
    | none => rw [he] at h; cases h
    | some e => exact ⟨rfl, c1, by omega⟩
  rename_i c1
  rw [if_neg c1] at h
  split
  · rename_i c2; rw [if_pos c2] at h
    have := sgn_i.mp c2
    unfold sgb at this
    have h9 : tb t s = 2 := h
    omega
  · rename_i c2; rw [if_neg c2] at h; cases h
theorem lxs_4 {t : List Nat} {s : Nat} (h : gon (lxs t s)) (h1 : (lxs t s).1 ≠ 1) (h2 : (lxs t s).1 ≠ 2) : (lxs t s).2.2.2 = s + 1 ∧ (lxs t s).1 = tb t s := by
  unfold gon at h
  unfold lxs at h h1 h2 ⊢
  split
  · rename_i c; rw [if_pos c] at h; exact absurd rfl h.1
  rename_i c0
  rw [if_neg c0] at h h1 h2
  split
  · rename_i c; rw [if_pos c] at h h1
    split
    · rename_i c1; rw [if_pos c1] at h; exact absurd rfl h.2
    · rename_i c1; rw [if_neg c1] at h1; exact absurd rfl h1
  rename_i c
  rw [if_neg c] at h h1 h2
  split
  · rename_i c1; rw [if_pos c1] at h h2
    cases he : eN t s with
    | none => rw [he] at h; exact absurd rfl h.2
    | some e => rw [he] at h2; exact absurd rfl h2
  rename_i c1
  rw [if_neg c1] at h h1 h2
  split
  · exact ⟨rfl, rfl⟩
  · rename_i c2; rw [if_neg c2] at h; exact absurd rfl h.2
theorem cr_endOfToken {σ : St} {x s : Nat} {t : List Nat} (h : RT σ x t) (hx : XS σ x) (hs : s ≤ t.length) (hg : gon (lxs t s)) : fX4_endOfToken σ (x + 65) (nI s) (nI (lxs t s).1) = some (σ, nI (lxs t s).2.2.2) := by
  have hb := (lxs_b hs).2.2.2.2.2.2.1
  have hl := h.1.2
  apply hx_eq
  rw [n_fX4_endOfToken]
  refine Hx.ce (sm_eq (by omega) (by omega)) (fun c1 => ?_) (fun c1 => ?_)
  · rw [hx.c9, (lxs_1 c1).2]
    refine hx_bs ?_
    rw [cr_endOfWord h hx hs]
    exact hx_cs (Hx.ret ⟨rfl, rfl⟩)
  · refine Hx.ce (sm_eq (by omega) (by omega)) (fun c2 => ?_) (fun c2 => ?_)
    · rw [hx.c9]
      refine hx_bs ?_
      rw [cr_endOfNumber h hx hs, (lxs_2 c2).1]
      exact hx_cs (Hx.ret ⟨rfl, (sm_iz _).symm⟩)
    · rw [(lxs_4 hg c1 c2).1, sm_add]
      exact Hx.ret ⟨rfl, rfl⟩
