/-! ===== the class' Reader: what it has read is a sum ===== -/
def sRd (x r : Nat) : Prop := x + 65 ≤ r ∧ r ≤ x + 74
def sRr (x r : Nat) : Prop := (x + 19 ≤ r ∧ r ≤ x + 40) ∨ (x + 65 ≤ r ∧ r ≤ x + 74)
theorem rX.W {x : Nat} {F A : Nat → Prop} {σ σ' : St} (hR : rX x F A σ σ') (hp : HP (PX x) σ) (hx : XS σ x) (hA : ∀ o, A o → 66 ≤ o ∧ o ≤ 74) : cW x (sRd x) 0 0 σ σ' := by
  obtain ⟨⟨a1, a2, a3, a4, a5⟩, ⟨a6, a7, a8⟩, a9, a10⟩ := hR
  obtain ⟨ho, hP⟩ := hp
  have hnl : ∀ o, 66 ≤ o → o ≤ 74 → NL σ (x + o) := by
    intro o h1 h2
    apply hx.2.2.2.2 o
    obtain rfl | rfl | rfl | rfl | rfl | rfl | rfl | rfl | rfl : o = 66 ∨ o = 67 ∨ o = 68 ∨ o = 69 ∨ o = 70 ∨ o = 71 ∨ o = 72 ∨ o = 73 ∨ o = 74 := by omega
    all_goals decide
  have ho2 : Own σ' := by
    unfold Own lb at *
    rw [a1, a2, a6]
    exact ho
  have hn : ∀ b z, Nt σ b z → Nt σ' b z := by
    rintro b z ⟨l, n, w, ⟨g1, g2, g3, g4, g5⟩, ⟨u1, u2, u3⟩, g7⟩
    have k9 := hx.k9
    refine ⟨l, n, w, ⟨by rw [a1]; exact g1, by rw [a2]; exact g2, by rw [a1]; exact g3, by rw [a3]; exact g4, g5⟩, ⟨?_, fun i hi => ?_, u3⟩, g7⟩
    · rw [a9 _ _ (fun q => by rw [q.1] at g1; omega)]; exact u1
    · rw [a10 l (fun o hao e => by
        have := hA o hao
        exact hnl o this.1 this.2 b g1 (g2.trans e))]
      exact u2 i hi
  have hPot : Pot (PX x) σ' = Pot (PX x) σ := Pot_same fun b hb => by
    show sN σ' (sF σ' (fid 7 0) b) = sN σ (sF σ (fid 7 0) b)
    rw [a2, a3]
  refine ⟨⟨⟨ho, hP⟩, ho2, fun b hb => ?_⟩, ⟨by omega, fun b _ => ⟨by rw [a1], by rw [a3], fun f _ => by rw [a2]⟩⟩, fun b hb q1 q2 => ⟨fun f => ?_, fun f => by rw [a2], fun j => ?_, fun j => by rw [a4], fun j => by rw [a5]⟩, fun b hb => Or.inl ⟨ho.lt (a := b) (by rw [← a1, hb]; omega), by show sF σ' _ b = sF σ _ b; rw [a2]⟩, by omega, by omega⟩
  · obtain ⟨z, hz⟩ := hP b hb
    exact ⟨z, hn b z hz⟩
  · refine a9 f b (fun q => ?_)
    exact q1 (ho.nl (by rw [q.1]; have := hx.k9; omega)) (by rw [q.1]; exact ⟨Nat.le_refl _, by omega⟩)
  · rw [a10 b (fun o hao e => ?_)]
    have := hA o hao
    exact q1 (by rw [e]; exact hnl o this.1 this.2) (by rw [e]; exact ⟨by omega, by omega⟩)
/-- the items in the Reader's rows -/
def RLs (σ : St) (x : Nat) (L : List It) : Prop := sI σ (fid 8 11) (x + 65) = nI L.length ∧ sI σ (fid 8 12) (x + 65) = nI (cnv L) ∧ ∀ j it, L[j]? = some it → Lrow σ x j it (cnv (L.take j))
theorem RLs.kW {σ σ' : St} {x k c : Nat} {L : List It} {S : Nat → Prop} (h : RLs σ x L) (hF : cW x S k c σ σ') (hx : XS σ x) (hS : ∀ o, 65 ≤ o → o ≤ 74 → ¬ S (x + o)) : RLs σ' x L := by
  have k9 := hx.k9
  have k70 : sK σ (x + 70) = 100 := hx.kd 70 100 (by decide)
  have k71 : sK σ (x + 71) = 100 := hx.kd 71 100 (by decide)
  have k72 : sK σ (x + 72) = 100 := hx.kd 72 100 (by decide)
  have k73 : sK σ (x + 73) = 100 := hx.kd 73 100 (by decide)
  have s0 := hF.sam (a := x + 65) (by omega) (Or.inl (by omega)) (hS 65 (by omega) (by omega))
  have s1 := hF.sam (a := x + 70) (by omega) (Or.inr (hx.2.2.2.2 70 (by decide))) (hS 70 (by omega) (by omega))
  have s2 := hF.sam (a := x + 71) (by omega) (Or.inr (hx.2.2.2.2 71 (by decide))) (hS 71 (by omega) (by omega))
  have s3 := hF.sam (a := x + 72) (by omega) (Or.inr (hx.2.2.2.2 72 (by decide))) (hS 72 (by omega) (by omega))
  have s4 := hF.sam (a := x + 73) (by omega) (Or.inr (hx.2.2.2.2 73 (by decide))) (hS 73 (by omega) (by omega))
  refine ⟨by rw [s0.1]; exact h.1, by rw [s0.1]; exact h.2.1, fun j it hj => ?_⟩
  unfold Lrow
  rw [s1.2.2.1, s2.2.2.1, s3.2.2.1, s4.2.2.1]
  exact h.2.2 j it hj
theorem KA.kW {σ σ' : St} {x a n k c : Nat} {S : Nat → Prop} (h : KA σ x a n) (hF : cW x S k c σ σ') (ha : ¬ S a) : KA σ' x a n ∧ ∀ j, sA σ' a j = sA σ a j := by
  obtain ⟨h1, h2, h3, h4⟩ := h
  have h0 : sK σ a ≠ 0 := by omega
  have hz := hF.1.1.1.lt h0
  exact ⟨⟨h1, hF.k h2 (by omega), by rw [(hF.2.1.2 a hz).2.1]; exact h3, hF.nl hz h4⟩, (hF.sam h0 (Or.inr h4) ha).2.2.1⟩
/-- the first n places of a row of ints, copied -/
theorem cx_copyOf {x a n m : Nat} {σ : St} (hp : HP (PX x) σ) (hx : XS σ x) (hk : sK σ a = 100) (hm : sN σ a = m) (hnm : n ≤ m) (hm2 : m ≤ 2000) : Hx (fJ7_copyOf_59c91 σ a (nI n)) (fun σ' v => v = sz σ ∧ cW x s0 n 1 σ σ' ∧ KA σ' x (sz σ) n ∧ ∀ j, j < n → sA σ' (sz σ) j = sA σ a j) := by
  have hzx : x + 144 ≤ sz σ := hx.1.2
  have haz : a < sz σ := hp.1.lt (by omega)
  have hnl : ∀ (σ' : St), (∀ b, b < sz σ → sK σ' b = sK σ b) → (∀ b, b < sz σ → lb σ' b = lb σ b) → sK σ' (sz σ) = 100 → (∀ b, sz σ < b → sK σ' b = 0) → NL σ' (sz σ) := by
    intro σ' e1 e2 e3 e4 b hb e
    rcases Nat.lt_trichotomy b (sz σ) with q | q | q
    · rw [e2 b q] at e
      rw [e1 b q] at hb
      have := hp.1.lb hb
      omega
    · rw [q, e3] at hb; omega
    · rw [e4 b q] at hb; omega
  try rw [n_fJ7_copyOf_59c91, sm_aln hk ⟨by omega, by omega⟩, hm]
  refine hx_bs (Hx.ce (sm_eq (by omega) (by omega)) (fun c => ?_) (fun c => ?_))
  · subst c
    try rw [show cln 0 a σ = some (nwc a σ) from if_pos hk]
    refine hx_bs (hx_nm ?_)
    have e1 : sK (nwc a σ) (sz σ) = 100 := (if_pos rfl).trans hk
    rw [sm_ckK e1]
    have hF := cW.nwc hp hk (by omega)
    rw [hm] at hF
    refine hx_bs (Hx.ret ⟨rfl, hF, ⟨⟨by omega, mR.n (by omega)⟩, e1, (if_pos rfl).trans hm, hnl _ (fun b hb => if_neg (by omega)) (fun b hb => if_neg (by omega)) e1 (fun b hb => (if_neg (by omega)).trans (hp.1.1.2 b (by omega)))⟩, fun j _ => if_pos rfl⟩)
  · try rw [nwA_ok (by omega)]
    refine hx_bs (hx_nm ?_)
    have hk1 : sK (nw 100 n n σ) a = 100 := (if_neg (by omega)).trans hk
    have hn1 : sN (nw 100 n n σ) a = m := (if_neg (by omega)).trans hm
    have hkz : sK (nw 100 n n σ) (sz σ) = 100 := if_pos rfl
    have hnz : sN (nw 100 n n σ) (sz σ) = n := if_pos rfl
    have ez : ¬ nI 0 < 0 := by
      show ¬ nI 0 < nI 0
      rw [sm_lt (by omega) (by omega)]
      omega
    have en : ¬ nI n < 0 := by
      show ¬ nI n < nI 0
      rw [sm_lt (by omega) (by omega)]
      omega
    try rw [sm_aln hk1 ⟨by omega, by omega⟩, hn1]
    refine hx_bs ?_
    rw [if_pos (by rw [sm_lt (by omega) (by omega)]; omega)]
    have e1 : acp (nw 100 n n σ) 0 a (nI 0) (sz σ) (nI 0) (nI n) = some (wAs (nw 100 n n σ) (sz σ) (va_cpy (sA (nw 100 n n σ) a) (sA (nw 100 n n σ) (sz σ)) 0 0 n)) := by
      unfold acp
      rw [sm_clamp (show n < 2147483648 by omega), sm_clamp (show 0 < 2147483648 by omega), if_pos]
      refine ⟨hk1, hkz, ez, ez, en, by rw [hn1]; omega, by rw [hnz]; omega, Or.inl rfl⟩
    rw [e1]
    have hzz : sz (wAs (nw 100 n n σ) (sz σ) (va_cpy (sA (nw 100 n n σ) a) (sA (nw 100 n n σ) (sz σ)) 0 0 n)) = sz σ + 1 := rfl
    have hF : cW x s0 n 1 σ (wAs (nw 100 n n σ) (sz σ) (va_cpy (sA (nw 100 n n σ) a) (sA (nw 100 n n σ) (sz σ)) 0 0 n)) := by
      refine cW.alloc hp (Nat.le_succ _) (fun b hb => ?_) (fun b hb => ?_) (fun c ha h8 => ?_) (Nat.le_refl _) (Nat.le_refl _)
      · have e : b ≠ sz σ := by omega
        exact ⟨if_neg e, if_neg e, fun _ => if_neg e, fun _ => if_neg e, fun _ => (if_neg e).trans (if_neg e), fun _ => if_neg e, fun _ => if_neg e⟩
      · rw [hzz] at hb
        exact (if_neg (by omega)).trans (hp.1.1.2 b (by omega))
      · exfalso
        have h8' : (if c = sz σ then 100 else sK σ c) = 8 := h8
        split at h8'
        · omega
        · rw [hp.1.1.2 c (by omega)] at h8'; omega
    refine hx_bs (Hx.ret ⟨rfl, hF, ⟨⟨by omega, mR.n (by omega)⟩, hkz, hnz, hnl _ (fun b hb => if_neg (by omega)) (fun b hb => if_neg (by omega)) hkz (fun b hb => (if_neg (by omega)).trans (hp.1.1.2 b (by omega)))⟩, fun j hj => ?_⟩)
    show (if sz σ = sz σ then va_cpy (sA (nw 100 n n σ) a) (sA (nw 100 n n σ) (sz σ)) 0 0 n j else sA (nw 100 n n σ) (sz σ) j) = _
    rw [if_pos rfl]
    unfold va_cpy
    rw [if_pos (by omega)]
    show sA (nw 100 n n σ) a (0 + (j - 0)) = _
    rw [Nat.zero_add, Nat.sub_zero]
    exact if_neg (by omega)
/-- the numbers among the items -/
def nvs (L : List It) : List Qv := (L.filter fun it => it.1 == 30).map (·.2.2.2.2)
theorem nvs_len (L : List It) : (nvs L).length = cnv L := by unfold nvs cnv; rw [List.length_map]
theorem nvs_app (L M : List It) : nvs (L ++ M) = nvs L ++ nvs M := by unfold nvs; rw [List.filter_append, List.map_append]
theorem nvs_1 {it : It} : nvs [it] = if it.1 = 30 then [it.2.2.2.2] else [] := by
  unfold nvs
  rw [List.filter_cons]
  by_cases c : it.1 = 30
  · rw [if_pos c, if_pos (by rw [c]; rfl)]; rfl
  · rw [if_neg c, if_neg (by simpa using c)]; rfl
theorem take_suc {α : Type} {L : List α} {i : Nat} {a : α} (h : L[i]? = some a) : L.take (i + 1) = L.take i ++ [a] := by
  obtain ⟨h1, h2⟩ := List.getElem?_eq_some_iff.mp h
  rw [List.take_succ_eq_append_getElem h1, h2]
theorem cnv_take (L : List It) (i : Nat) : cnv (L.take i) ≤ cnv L := by
  have := cnv_app (L.take i) (L.drop i)
  rw [List.take_append_drop] at this
  omega
theorem cnv_take_lt {L : List It} {i : Nat} {it : It} (h : L[i]? = some it) (h30 : it.1 = 30) : cnv (L.take i) < cnv L := by
  have h1 := cnv_take L (i + 1)
  rw [take_suc h, cnv_app, cnv_1, if_pos h30] at h1
  omega
theorem nvs_get {L : List It} {i : Nat} {it : It} (h : L[i]? = some it) (h30 : it.1 = 30) : (nvs L)[cnv (L.take i)]? = some it.2.2.2.2 := by
  have e := List.take_append_drop (i + 1) L
  rw [take_suc h] at e
  rw [← e, nvs_app, nvs_app, nvs_1, if_pos h30]
  have hl : (L.take i ++ [it] ++ L.drop (i + 1)).take i = L.take i := by
    rw [e]
  rw [hl, List.append_assoc, List.getElem?_append_right (by rw [nvs_len]; exact Nat.le_refl _), nvs_len, Nat.sub_self]
  rfl
theorem ckd_21 {it : It} (h : itb it) : ckd it = 21 ↔ it.1 = 30 := by
  obtain ⟨_, _, _, _, h5⟩ := h
  have hk := known_b it.2.1
  unfold ckd
  constructor
  · intro q
    apply Classical.byContradiction
    intro c
    rw [if_neg c] at q
    split at q
    · cases q
    split at q
    · cases q
    split at q
    · split at q <;> omega
    · omega
  · intro q
    rw [if_pos q]
theorem ckd_b {it : It} (h : itb it) : ckd it < 2147483648 := by
  have hk := known_b it.2.1
  have := h.1
  unfold ckd
  repeat' split
  all_goals omega
theorem KF.kW2 {σ σ' : St} {x a k c : Nat} {q : Qv} {S : Nat → Prop} (h : KF σ x a q) (hF : cW x S k c σ σ') (hr : ∀ T, tMu T → ∀ i, sQ σ' (x + T) i = sQ σ (x + T) i) (hS : ¬ S a ∧ ¬ S (a + 1) ∧ ¬ S (a + 3)) : KF σ' x a q :=
  ⟨h.1, fun T i hT => by rw [hr T hT]; exact h.2.1 T i hT, h.2.2.1, h.2.2.2.kW hF hS⟩
theorem rd_nums {x na nn s18 : Nat} {t : List Nat} {L : List It} {σ0 : St} (hx0 : XS σ0 x) (hQ0 : SQ σ0 x) (hna : sz σ0 ≤ na) (hok : ∀ it ∈ L, iok t it) (hL : L.length ≤ 200) : ∀ (f i : Nat) (σ : St), L.length - i < f → i ≤ L.length →
    cW x (sRc x) (nn + 15 * cnv (L.take i)) (1 + 5 * cnv (L.take i)) σ0 σ → RT σ x t → RLs σ x L → (sK σ na = 104 ∧ sN σ na = cnv L) → (∀ u q, (nvs (L.take i))[u]? = some q → KF σ x (sQ σ na u) q) → s18 = x + 18 →
    Hx (fX4_readNumbers_10 f σ (x + 65) s18 na (nI i)) (fun σ' v => v = na ∧ cW x (sRc x) (nn + 15 * cnv L) (1 + 5 * cnv L) σ0 σ' ∧ (sK σ' na = 104 ∧ sN σ' na = cnv L) ∧ ∀ u q, (nvs L)[u]? = some q → KF σ' x (sQ σ' na u) q) := by
  intro f
  induction f with
  | zero => intro i σ h; omega
  | succ f ih =>
    intro i σ hf hi hF ht hl hk hv hs
    subst hs
    have hx := hx0.kW hF
    obtain ⟨l1, l2, l3⟩ := id hl
    try rw [n_fX4_readNumbers_10, (sm_gI hx.k9).trans (congrArg some l1)]
    refine hx_bs (Hx.ce (sm_le (by omega) (by omega)) (fun c => ?_) (fun c => ?_))
    · have e : L.take i = L := List.take_of_length_le c
      rw [e] at hF hv
      exact Hx.ret ⟨rfl, hF, hk, hv⟩
    · have hg := List.getElem?_eq_getElem (show i < L.length by omega)
      generalize hit : L[i] = it at hg
      have hio := hok it (List.mem_of_getElem? hg)
      obtain ⟨r1, r2, r3, r4⟩ := l3 i it hg
      have hnl := cnv_le L
      have hcb := ckd_b hio.1
      have n70 : sN σ (x + 70) = 200 := hx.nn 70 200 (by decide)
      have n71 : sN σ (x + 71) = 200 := hx.nn 71 200 (by decide)
      have n72 : sN σ (x + 72) = 200 := hx.nn 72 200 (by decide)
      try rw [xf_8_7 hx]
      refine hx_bs ?_
      try rw [sm_ld (hx.kd 70 100 (by decide)) (by omega) (by omega), r1]
      refine hx_bs (Hx.ce (sm_eq hcb (by omega)) (fun c2 => ?_) (fun c2 => ?_))
      · have h30 := (ckd_21 hio.1).mp c2
        obtain ⟨h9, hq⟩ := hio.2.2 h30
        have hlt := cnv_take_lt hg h30
        rw [if_pos h30] at r2
        try rw [xf_8_8 hx]
        refine hx_bs ?_
        try rw [sm_ld (hx.kd 71 100 (by decide)) (by omega) (by omega), r2]
        refine hx_bs ?_
        try rw [sm_aln (κ := 104) hk.1 ⟨by omega, by omega⟩, hk.2]
        refine hx_bs (Hx.ce (sm_le (by omega) (by omega)) (fun c3 => by omega) (fun _ => ?_))
        refine hx_bs ?_
        try rw [sm_ld (hx.kd 71 100 (by decide)) (by omega) (by omega), r2]
        refine hx_bs ?_
        try rw [xf_8_9 hx]
        refine hx_bs ?_
        try rw [sm_ld (hx.kd 72 100 (by decide)) (by omega) (by omega), r3]
        refine hx_bs ?_
        try rw [hx.c9]
        refine hx_bs ?_
        refine Hx.bd (cr_numberFrom hF.hp hx ht h9) (fun σ1 a h1 => ?_)
        obtain ⟨rfl, hF1, hX⟩ := h1
        have hx1 := hx.kW hF1
        have hzz := hF.2.1.1
        have hzx : x + 144 ≤ sz σ := hx.1.2
        have hnaz : na < sz σ := hF.1.2.1.lt (by rw [hk.1]; omega)
        have hk1 : sK σ1 na = 104 := hF1.k hk.1 (by omega)
        have hn1 : sN σ1 na = cnv L := ((hF1.2.1.2 na hnaz).2.1).trans hk.2
        try rw [stQ_ok (ti := 4) hk1 (by rw [hn1]; exact hlt) (by omega) (Or.inr hX.1.1)]
        refine hx_bs ?_
        have hzx0 : x + 144 ≤ sz σ0 := hx0.1.2
        have hFq := cWq (x := x) (a := na) (j := cnv (L.take i)) (v := sz σ) hF1.hp (by omega) (by omega)
        have hFn : cW x (sRc x) (nn + 15 * cnv (L.take i) + 15) (1 + 5 * cnv (L.take i) + 5) σ0 (wQ σ1 na (cnv (L.take i)) (sz σ)) := (hF.tr hF1 (fun r _ h => h)).tr0 hFq (fun r hr hs => by have : r = na := hs; omega)
        have hrow1 : ∀ T, tMu T → ∀ j, sQ σ1 (x + T) j = sQ σ (x + T) j := fun T hT => hF1.row hx hT (fun h => by simp only [sRc] at h; rcases hT with g | g | g <;> omega)
        have hrow2 : ∀ T, tMu T → ∀ j, sQ (wQ σ1 na (cnv (L.take i)) (sz σ)) (x + T) j = sQ σ1 (x + T) j := fun T hT j => congrFun (sQ_wQ_b (show x + T ≠ na by rcases hT with g | g | g <;> omega)) j
        have hQ : SQ σ x := hQ0.st hF hx0 (fun r hr => by simp only [sRc] at hr; omega)
        have keep : ∀ u q, KF σ x u q → KF (wQ σ1 na (cnv (L.take i)) (sz σ)) x u q := by
          intro u q hu
          have h6 := hu.2.2.2.1.1
          have huo := hu.1
          have h1 := hu.kW2 hF1 hrow1 ⟨fun h => by simp only [sRc] at h; omega, fun h => by simp only [sRc] at h; omega, fun h => by simp only [sRc] at h; omega⟩
          have k6 := h1.2.2.2.1.1
          have k8 := h1.2.2.2.1.2.2.1.1
          have k8' := h1.2.2.2.1.2.2.2.1
          exact h1.kW2 hFq hrow2 ⟨fun h => by have : u = na := h; rw [this] at k6; omega, fun h => by have : u + 1 = na := h; rw [this] at k8; omega, fun h => by have : u + 3 = na := h; rw [this] at k8'; omega⟩
        have hx2 := hx1.kW hFq
        have ht2 := (ht.kW hF1 hx (fun h => by simp only [sRc] at h; omega) (fun h => by simp only [sRc] at h; omega)).kW hFq hx1 (fun h => by have : x + 65 = na := h; omega) (fun h => by have : x + 66 = na := h; omega)
        have hl2 := (hl.kW hF1 hx (fun o _ _ h => by simp only [sRc] at h; omega)).kW hFq hx1 (fun o _ _ h => by have : x + o = na := h; omega)
        have et : cnv (L.take (i + 1)) = cnv (L.take i) + 1 := by rw [take_suc hg, cnv_app, cnv_1, if_pos h30]
        have ev : nvs (L.take (i + 1)) = nvs (L.take i) ++ [it.2.2.2.2] := by rw [take_suc hg, nvs_app, nvs_1, if_pos h30]
        rw [n_fX4_readNumbers_59]
        refine hx_nm ?_
        rw [sm_add]
        refine ih (i + 1) _ (by omega) (by omega) ?_ ht2 hl2 ⟨hk1, hn1⟩ (fun u q hu => ?_) rfl
        · rw [et]
          exact hFn.mo (fun r _ h => h) (by omega) (by omega)
        · rw [ev] at hu
          by_cases c4 : u < (nvs (L.take i)).length
          · rw [List.getElem?_append_left c4] at hu
            rw [nvs_len] at c4
            rw [sQ_wQ_j (by omega)]
            have e9 : sQ σ1 na u = sQ σ na u := (hF1.sam (a := na) (by omega) (Or.inl (by omega)) (fun h => by simp only [sRc] at h; omega)).2.2.2.2 u
            rw [e9]
            exact keep _ q (hv u q hu)
          · have hul := (List.getElem?_eq_some_iff.mp hu).1
            rw [List.length_append, List.length_singleton] at hul
            obtain rfl : u = (nvs (L.take i)).length := by omega
            rw [List.getElem?_append_right (by omega), Nat.sub_self] at hu
            have hu9 : it.2.2.2.2 = q := Option.some.inj hu
            subst hu9
            rw [nvs_len, sQ_wQ_eq, hq]
            have hX2 : FX (wQ σ1 na (cnv (L.take i)) (sz σ)) (sz σ) (nmq t it.2.2.2.1).1 (nmq t it.2.2.2.1).2.1 (nmq t it.2.2.2.1).2.2 := hX.kW hFq ⟨fun h => by have : sz σ = na := h; omega, fun h => by have : sz σ + 1 = na := h; omega, fun h => by have : sz σ + 3 = na := h; omega⟩
            refine ⟨Or.inl (by omega), fun T j hT e => ?_, nmq_ok h9, hX2⟩
            rw [hrow2 T hT, hrow1 T hT] at e
            by_cases c5 : sQ σ (x + T) j = 0
            · omega
            · have := (hQ.1 T j hT c5).2.1.1
              have := hF.1.2.1.lt (a := sQ σ (x + T) j) (by omega)
              omega
      · have h30 : it.1 ≠ 30 := fun q => c2 ((ckd_21 hio.1).mpr q)
        have et : cnv (L.take (i + 1)) = cnv (L.take i) := by rw [take_suc hg, cnv_app, cnv_1, if_neg h30, Nat.add_zero]
        have ev : nvs (L.take (i + 1)) = nvs (L.take i) := by rw [take_suc hg, nvs_app, nvs_1, if_neg h30, List.append_nil]
        rw [n_fX4_readNumbers_59]
        refine hx_nm ?_
        rw [sm_add]
        exact ih (i + 1) σ (by omega) (by omega) (by rw [et]; exact hF) ht hl hk (by rw [ev]; exact hv) rfl
