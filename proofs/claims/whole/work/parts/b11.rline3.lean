/-! ===== the reference reads a SUM, and a line ===== -/
theorem syA_no {t ps : List Nat} {S : List Wt} {L : List It} {i : Nat} {M : List It} : syA t ps S L i ≠ .inr (.inr M) := by
  unfold syA
  repeat' split
  all_goals (intro q; cases q)
theorem syC_no {i : Nat} {p : List Wt × List It} {M : List It} : syC i p ≠ .inr (.inr M) := by
  obtain ⟨S, L⟩ := p
  cases S with
  | nil => intro q; cases q
  | cons w S => intro q; cases q
theorem syK_no {i : Nat} {p : List Wt × List It} {M : List It} : syK i p ≠ .inr (.inr M) := by
  obtain ⟨S, L⟩ := p
  cases S with
  | nil => intro q; cases q
  | cons w S =>
    show (if w.2.2.1 = none then (.inr (.inl i) : Se) else .inl (false, (w.1, w.2.1, w.2.2.1, w.2.2.2 + 1) :: S, L, i + 1)) ≠ _
    split
    all_goals (intro q; cases q)
theorem syB_no {t : List Nat} {S : List Wt} {L : List It} {i : Nat} {M : List It} (h0 : (tk t i).1 ≠ 0) : syB t S L i ≠ .inr (.inr M) := by
  unfold syB
  split
  · intro q; cases q
  split
  · exact syC_no
  split
  · split
    all_goals (intro q; cases q)
  split
  · exact syK_no
  split
  · intro q; cases q
  intro q
  cases q
def SumP (m : Nat) (t ps : List Nat) (k0 v0 n : Nat) (σ σ' : St) (v : Int32) (s : Sy) : Prop := RY m k0 v0 σ σ' ∧ ∃ e, Rt t ps s (.inr e) ∧ MS σ' m ∧ match e with
  | .inl j => v = nI 0 ∧ TkN σ' m t (tk t j)
  | .inr L => v = nI 1 ∧ L.length ≤ n ∧ ∃ vm', (600 ≤ vm' ∧ v0 ≤ vm' ∧ vm' ≤ v0 + n) ∧ Fi σ' m 5 (nI vm') ∧ Its σ' m vm' k0 L ∧ Fi σ' m 21 (nI (k0 + L.length))
theorem ry_sum_12 {m k0 v0 n : Nat} {t ps : List Nat} (hn : Ntk t n) (hl : t.length ≤ 200) (hk0 : k0 + 205 ≤ 12000) (hv0 : v0 + 205 ≤ 12600) : ∀ (f : Nat) (s : Sy) (vm : Nat) (σ : St), n - s.2.2.2 + 1 < f → SyR σ m t ps vm k0 v0 n s → Hx (fX12_readsSum_12 f σ m (nI (if s.1 = true then 1 else 0))) (fun σ' v => SumP m t ps k0 v0 n σ σ' v s) := by
  intro f
  induction f with
  | zero => intro s vm σ h; omega
  | succ f ih =>
    intro s vm σ hf hs
    obtain ⟨f, rfl⟩ : ∃ g, f = g + 1 := ⟨f - 1, by omega⟩
    have hnl := hn.le
    have hm := hs.1.1
    have bi : s.2.2.2 < n := hs.2.2.1
    -- what follows a step
    have aft : ∀ (σ1 : St) (v : Int32) (e : Se), (∀ M, e ≠ .inr (.inr M)) → sy t ps s = e → StP m t ps k0 v0 n σ σ1 v s.2.2.2 e → Hx (fX12_readsSum_12 (f + 1) σ1 m v) (fun σ' v => SumP m t ps k0 v0 n σ σ' v s) := by
      rintro σ1 v e hno he ⟨q1, q2⟩
      rcases e with s' | j | M
      · obtain ⟨rfl, q3, vm', q4⟩ := q2
        have bi' : s'.2.2.2 < n := q4.2.2.1
        refine (ih s' vm' σ1 (by omega) q4).mo (fun σ2 v2 g => ?_)
        obtain ⟨g1, e, g2, g3⟩ := g
        exact ⟨q1.tr g1, e, Rt.st he g2, g3⟩
      · obtain ⟨rfl, q3, q4⟩ := q2
        rw [n_fX12_readsSum_12]
        refine Hx.ce rfl (fun _ => ?_) (fun q => absurd rfl q)
        rw [n_fX12_readsSum_47]
        refine Hx.ce rfl (fun _ => ?_) (fun q => absurd rfl q)
        exact Hx.ret ⟨q1, .inl j, Rt.en he, q3, rfl, q4⟩
      · exact absurd rfl (hno M)
    rw [n_fX12_readsSum_12]
    obtain ⟨b, S, L, i⟩ := s
    have bi : i < n := bi
    have aft := aft
    cases b with
    | false =>
      refine Hx.ce (nIm (show 0 < 2147483648 by omega)) (fun q => q.elim) (fun _ => ?_)
      refine Hx.ce rfl (fun _ => ?_) (fun q => absurd rfl q)
      rw [n_fX12_readsSum_28]
      refine Hx.ce rfl (fun _ => ?_) (fun q => absurd rfl q)
      rw [rf_ck hm]
      refine hx_bs ?_
      refine Hx.bd (ry_operand hn hk0 hv0 hs) (fun σ1 v h => ?_)
      rw [n_fX12_readsSum_43]
      exact aft σ1 v (syA t ps S L i) (fun M => syA_no) rfl h
    | true =>
      have hT : TkN σ m t (tk t i) := hs.1.2.2.2.1
      have hY : Yd σ m vm k0 S L := hs.2.1
      refine Hx.ce (nIm (show 1 < 2147483648 by omega)) (fun q => q.elim) (fun _ => ?_)
      refine Hx.ce (sm_eq (show 1 < 2147483648 by omega) (by omega)) (fun q => absurd q (show ¬ (1 : Nat) = 0 by omega)) (fun _ => ?_)
      rw [fi_g hm hT.1]
      refine hx_bs (Hx.ce tkR_0 (fun c => ?_) (fun c => ?_))
      · have esy : sy t ps (true, S, L, i) = syE i (stl 1 S L) := by
          show syB t S L i = _
          have z : sgo 0 = 0 := rfl
          unfold syB
          rw [c, z, if_neg (by omega), if_neg (by omega), if_neg (by omega), if_neg (by omega), if_neg (by omega), if_pos rfl]
        rw [n_fX12_readsSum_47]
        refine Hx.ce (nIm (show 1 < 2147483648 by omega)) (fun q => q.elim) (fun _ => ?_)
        rw [rf_ck hm]
        refine hx_bs ?_
        refine Hx.bd (ry_settles (show 1 ≤ 3 by omega) hm hY) (fun σ1 _ h => ?_)
        obtain ⟨q1, q2⟩ := h
        have hm1 := q1.1.ms hm
        have sl := stl_len (r := 1) S L
        cases e : stl 1 S L with
        | mk S1 L1 =>
        rw [e] at q2 sl esy
        have sl : S1.length + L1.length = S.length + L.length := sl
        have q2 : Yd σ1 m vm k0 S1 L1 := q2
        have hb : S.length + L.length ≤ i := hs.2.2.2.1
        obtain ⟨⟨y1, y2, y3⟩, ⟨y4, y5, y6⟩, y7⟩ := q2
        rw [fi_g hm1 y4]
        refine hx_bs (Hx.ce (sm_eq (by omega) (by omega)) (fun d => ?_) (fun d => ?_))
        · obtain rfl := List.length_eq_zero_iff.mp d
          refine Hx.ret ⟨q1.ry, .inr L1, Rt.en esy, hm1, rfl, ?_, vm, ⟨hs.2.2.2.2.2.1.1, hs.2.2.2.2.2.1.2, ?_⟩, q1.fi hs.1.2.2.2.2.2 (by omega), y7, y6⟩
          · have : ([] : List Wt).length = 0 := rfl
            omega
          · have : vm ≤ v0 + i := hs.2.2.2.2.2.2
            omega
        · cases S1 with
          | nil => exact absurd rfl d
          | cons w S' => exact Hx.ret ⟨q1.ry, .inl i, Rt.en esy, hm1, rfl, hT.keep q1.1 (by decide)⟩
      · rw [n_fX12_readsSum_28]
        refine Hx.ce (sm_eq (show 1 < 2147483648 by omega) (by omega)) (fun q => absurd q (show ¬ (1 : Nat) = 0 by omega)) (fun _ => ?_)
        rw [rf_ck hm]
        refine hx_bs ?_
        refine Hx.bd (ry_behind hn hk0 c hs) (fun σ1 v h => ?_)
        rw [n_fX12_readsSum_43]
        exact aft σ1 v (syB t S L i) (fun M => syB_no c) rfl h
/-- the reader's head: what it has read of the parameters -/
theorem hdp_of {t : List Nat} {n : Nat} (hn : Ntk t n) : ∀ (k i r : Nat) (ps : List Nat) {a j : Nat} {qs : List Nat}, i < n → pml t r i = some a → hdp t k i ps = .inr (j, qs) → (∀ x y w : Nat, ps[x]? = some w → ps[y]? = some w → x = y) → j = a + 3 ∧ j < n ∧ i + 2 * qs.length = a + 2 + 2 * ps.length ∧ (∀ x y w : Nat, qs[x]? = some w → qs[y]? = some w → x = y) := by
  intro k
  induction k with
  | zero => intro i r ps a j qs _ _ h; cases h
  | succ k ih =>
    intro i r ps a j qs hi hp h hd
    have e : hdp t (k + 1) i ps = if 4 ≤ ps.length ∨ fix ps (tk t i).2.1 ≠ none then .inl i else if (tk t (i + 1)).1 = 41 then .inr (i + 3, ps ++ [(tk t i).2.1]) else hdp t k (i + 2) (ps ++ [(tk t i).2.1]) := rfl
    rw [e] at h
    obtain ⟨r, rfl⟩ : ∃ q, r = q + 1 := by
      cases r with
      | zero => cases hp
      | succ r => exact ⟨r, rfl⟩
    rw [pml_s] at hp
    split at hp
    · cases hp
    rename_i c1
    have c1 := Classical.not_not.mp c1
    have hi1 := hn.nx hi ⟨by omega, by omega⟩
    split at h
    · cases h
    rename_i c2
    have c3 : fix ps (tk t i).2.1 = none := by
      apply Classical.byContradiction
      intro q
      exact c2 (Or.inr q)
    have nd : ∀ x y w : Nat, (ps ++ [(tk t i).2.1])[x]? = some w → (ps ++ [(tk t i).2.1])[y]? = some w → x = y := by
      have hno : ∀ x : Nat, ps[x]? ≠ some (tk t i).2.1 := by
        intro x hx
        have := List.findIdx?_eq_none_iff.mp c3 _ (List.mem_of_getElem? hx)
        simp at this
      have top : ∀ x w : Nat, (ps ++ [(tk t i).2.1])[x]? = some w → (x < ps.length ∧ ps[x]? = some w) ∨ (x = ps.length ∧ w = (tk t i).2.1) := by
        intro x w hx
        by_cases q : x < ps.length
        · rw [List.getElem?_append_left q] at hx
          exact Or.inl ⟨q, hx⟩
        · rw [List.getElem?_append_right (by omega)] at hx
          have := (List.getElem?_eq_some_iff.mp hx).1
          rw [List.length_singleton] at this
          have ex : x - ps.length = 0 := by omega
          rw [ex] at hx
          exact Or.inr ⟨by omega, (Option.some.inj hx).symm⟩
      intro x y w hx hy
      rcases top x w hx with ⟨_, q1⟩ | ⟨q1, q2⟩
      · rcases top y w hy with ⟨_, u1⟩ | ⟨u1, u2⟩
        · exact hd x y w q1 u1
        · rw [u2] at q1; exact absurd q1 (hno x)
      · rcases top y w hy with ⟨_, u1⟩ | ⟨u1, u2⟩
        · rw [q2] at u1; exact absurd u1 (hno y)
        · omega
    split at h
    · rename_i c4
      rw [if_neg (by omega)] at hp
      split at hp
      · rename_i c5
        have ea : i = a := Option.some.inj hp
        have h := Sum.inr.inj h
        have ej : i + 3 = j := congrArg Prod.fst h
        have eq : ps ++ [(tk t i).2.1] = qs := congrArg Prod.snd h
        have hi2 := hn.nx hi1 ⟨by omega, by omega⟩
        have c6 : (tk t (i + 1 + 1)).1 = 61 := c5.2
        have hi3 := hn.nx hi2 ⟨by omega, by omega⟩
        subst eq
        rw [List.length_append, List.length_singleton]
        exact ⟨by omega, by omega, by omega, nd⟩
      · cases hp
    · rename_i c4
      split at hp
      · rename_i c5
        have hi2 := hn.nx hi1 ⟨by omega, by omega⟩
        have g := ih (i + 2) r _ hi2 hp h nd
        rw [List.length_append, List.length_singleton] at g
        obtain ⟨g1, g2, g3, g4⟩ := g
        exact ⟨g1, g2, by omega, g4⟩
      · rename_i c5
        rw [if_neg (fun q => c4 q.1)] at hp
        cases hp
