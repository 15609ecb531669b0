/-! ===== the reference works anew: which comes next ===== -/
def LfA (σ : St) (m : Nat) (lf : Nat → Prop) : Prop := ∀ t, t < 20 → sA σ (m + 33) t = nI (b01 (lf t))
theorem LfA.keep {m : Nat} {lf : Nat → Prop} {F A : List Nat} {V : Nat → Prop} {σ σ' : St} (h : LfA σ m lf) (hR : rfM m F A V σ σ') (hA : 33 ∉ A) : LfA σ' m lf := fun t ht => by rw [hR.ar 33 ⟨hA, by omega, by omega⟩]; exact h t ht
/-- nothing that is left and is another's is used by name t -/
def rdR (ns : List NE) (fs : List FE) (lf : Nat → Prop) (t : Nat) : Prop := ∀ e j ej, ns[t]? = some e → ns[j]? = some ej → j ≠ t → lf j → ¬ Rch (Ths ns fs) e.2.1 (0, ej.1, ej.2.1)
def Bst (ns : List NE) (lf rd : Nat → Prop) (k : Nat) (v : Int32) : Prop := (v = iz (-1) ∧ ∀ t, t < k → lf t → ¬ rd t) ∨ ∃ b e, v = nI b ∧ b < k ∧ lf b ∧ rd b ∧ ns[b]? = some e ∧ ∀ t, t < k → lf t → rd t → ∀ e', ns[t]? = some e' → wkey e.1 ≤ wkey e'.1
theorem Bst.no {ns : List NE} {lf rd : Nat → Prop} {k : Nat} {v : Int32} (h : Bst ns lf rd k v) (hk : ¬ (lf k ∧ rd k)) : Bst ns lf rd (k + 1) v := by
  rcases h with ⟨h1, h2⟩ | ⟨b, e, h1, h2, h3, h4, h5, h6⟩
  · refine Or.inl ⟨h1, fun t ht hl hr => ?_⟩
    by_cases q : t = k
    · subst q; exact hk ⟨hl, hr⟩
    · exact h2 t (by omega) hl hr
  · refine Or.inr ⟨b, e, h1, by omega, h3, h4, h5, fun t ht hl hr => ?_⟩
    by_cases q : t = k
    · subst q; exact absurd ⟨hl, hr⟩ hk
    · exact h6 t (by omega) hl hr
theorem and1 {a : Nat} (h : a ≤ 1) : nI a &&& nI 1 = nI a := by
  have e : a = 0 ∨ a = 1 := by omega
  rcases e with rfl | rfl
  · decide
  · decide
theorem and0 {a : Nat} (h : a ≤ 1) : nI a &&& nI 0 = nI 0 := by
  have e : a = 0 ∨ a = 1 := by omega
  rcases e with rfl | rfl
  · decide
  · decide
theorem rn_113 {m vm t : Nat} {ns : List NE} {fs : List FE} {lf : Nat → Prop} {x2 : Int32} {Q : St → Int32 → Prop} {us : Nat → Prop} {k47 : St → Nat → Option (St × Int32)} {k51 : St → Nat → Int32 → Int32 → Option (St × Int32)} {σ : St} (hm : MS σ m) (hB : Rbk σ m vm ns fs) (ht : t < ns.length) (hL : LfA σ m lf) (hU : ∀ j, j < ns.length → sA σ (m + 21) j = nI (b01 (us j)))
    (h1 : (∀ j, j < ns.length → j ≠ t → lf j → ¬ us j) → Hx (fX12_renews_171 k47 k51 σ m (nI t) (nI t)) Q) (h0 : ¬ (∀ j, j < ns.length → j ≠ t → lf j → ¬ us j) → Hx (fX12_renews_171 k47 k51 σ m x2 (nI t)) Q) :
    ∀ (n j : Nat) (x4 : Nat), ns.length - j < n → j ≤ ns.length → x4 = b01 (∀ i, i < j → i ≠ t → lf i → ¬ us i) → Hx (fX12_renews_113 k47 k51 n σ m x2 (nI t) (nI x4) (nI j)) Q := by
  obtain ⟨b40, b20, _, _⟩ := hB.1
  intro n
  induction n with
  | zero => intro j x4 h; omega
  | succ n ih =>
    intro j x4 hn hj hx
    have hx1 : x4 ≤ 1 := by rw [hx]; exact b01_le _
    rw [n_fX12_renews_113, fi_g hm b40]
    refine hx_bs (Hx.ce (sm_le (by omega) (by omega)) (fun c => ?_) (fun c => ?_))
    · have ej : j = ns.length := by omega
      subst ej
      rw [hx]
      refine Hx.ce b01_0 (fun d => h0 d) (fun d => h1 (Classical.not_not.mp d))
    · have go1 : (j = t ∨ ¬ lf j ∨ ¬ us j) → Hx (fX12_renews_150 k47 k51 (fX12_renews_113 k47 k51 n) σ m x2 (nI t) (nI j) (nI x4)) Q := by
        intro q
        rw [n_fX12_renews_150, n_fX12_renews_155, and1 hx1]
        refine hx_nm (hx_nm ?_)
        rw [sm_add]
        refine ih (j + 1) x4 (by omega) (by omega) ?_
        rw [hx]
        congr 1
        refine propext ⟨fun g i hi h2 h3 => ?_, fun g i hi => g i (by omega)⟩
        by_cases e : i = j
        · subst e
          rcases q with q | q | q
          · exact absurd q h2
          · exact absurd h3 q
          · exact q
        · exact g i (by omega) h2 h3
      refine Hx.ce (sm_eq (by omega) (by omega)) (fun d => go1 (Or.inl d)) (fun d => ?_)
      rw [rf_isLeft hm]
      refine hx_bs ?_
      rw [ldb_isLeft hm (by omega), hL j (by omega)]
      refine hx_bs (Hx.ce b01_0 (fun d2 => go1 (Or.inr (Or.inl d2))) (fun d2 => ?_))
      rw [rf_isUsed hm]
      refine hx_bs ?_
      rw [ldb_isUsed hm (by omega), hU j (by omega)]
      refine hx_bs (Hx.ce b01_0 (fun d3 => go1 (Or.inr (Or.inr d3))) (fun d3 => ?_))
      rw [n_fX12_renews_155, and0 hx1]
      refine hx_nm (hx_nm ?_)
      rw [sm_add]
      refine ih (j + 1) 0 (by omega) (by omega) ?_
      rw [b01_n]
      intro g
      exact d3 (g j (by omega) d (Classical.not_not.mp d2))
/-- what follows the search -/
noncomputable def rnF (k47 : St → Nat → Option (St × Int32)) (σ : St) (x0 : Nat) (x2 : Int32) : Option (St × Int32) := if x2 = (iz (-1)) then (some (σ, (nI 1))) else (Option.bind (gF σ 16 38 x0) fun v4 => Option.bind (ldI σ v4 x2) fun v5 => Option.bind (ckK σ 17 x0) fun _ => cb (fX12_worked σ x0 v5) fun σ6 v7 => if v7 = (iz (-1)) then (Option.bind (ckK σ6 17 x0) fun _ => cb (fX12_refuses σ6 x0 (nI 9) (nI 0)) fun σ17 v18 => Option.bind (gF σ17 16 37 x0) fun v20 => Option.bind (ldI σ17 v20 x2) fun v21 => Option.bind (pI σ17 16 45 x0 v21) fun σ22 => some (σ22, (nI 0))) else (Option.bind (gF σ6 16 39 x0) fun v10 => Option.bind (ckK σ6 17 x0) fun _ => cb (fX12_keeps σ6 x0 v7) fun σ11 v12 => Option.bind (stI σ11 v10 x2 v12) fun σ14 => Option.bind (gF σ14 16 63 x0) fun v15 => Option.bind (stZ σ14 v15 x2 (nI 0)) fun σ16 => k47 σ16 x0))
theorem rn_51 {m vm : Nat} {ns : List NE} {fs : List FE} {lf : Nat → Prop} {Q : St → Int32 → Prop} {k47 : St → Nat → Option (St × Int32)} (hw : ∀ e ∈ ns, wd e.1) :
    ∀ (n k : Nat) (x2 : Int32) (σ : St), ns.length - k < n → k ≤ ns.length → MS σ m → Rbk σ m vm ns fs → LfA σ m lf → Bst ns lf (rdR ns fs lf) k x2 →
      (∀ σ' v, MS σ' m → rfM m [] [21] nV σ σ' → Bst ns lf (rdR ns fs lf) ns.length v → Hx (rnF k47 σ' m v) Q) → Hx (fX12_renews_51 k47 n σ m x2 (nI k)) Q := by
  intro n
  induction n with
  | zero => intro k x2 σ h; omega
  | succ n ih =>
    intro k x2 σ hn hk hm hB hL hb hK
    obtain ⟨b40, b20, _, _⟩ := hB.1
    rw [n_fX12_renews_51, fi_g hm b40]
    refine hx_bs (Hx.ce (sm_le (by omega) (by omega)) (fun c => ?_) (fun c => ?_))
    · have ek : k = ns.length := by omega
      subst ek
      exact hK σ x2 hm rfM.rf hb
    · obtain ⟨e, he⟩ : ∃ e, ns[k]? = some e := ⟨_, List.getElem?_eq_getElem (by omega)⟩
      obtain ⟨g1, g2, ⟨d, g3, g4⟩, _⟩ := hB.2.1 k e he
      have hwe := hw e (List.mem_of_getElem? he)
      have nxt : ∀ (σ1 : St) (v : Int32), rfM m [] [21] nV σ σ1 → Bst ns lf (rdR ns fs lf) (k + 1) v → Hx (fX12_renews_171 k47 (fX12_renews_51 k47 n) σ1 m v (nI k)) Q := by
        intro σ1 v r1 b1
        rw [n_fX12_renews_171, sm_add]
        refine hx_nm ?_
        exact ih (k + 1) v σ1 (by omega) (by omega) (r1.ms hm) (hB.keepM r1 (by unfold Rnot; decide) (fun _ _ _ q => q)) (hL.keep r1 (by decide)) b1 (fun σ' u q1 q2 q3 => hK σ' u q1 (r1.tr q2) q3)
      rw [rf_isLeft hm]
      refine hx_bs ?_
      rw [ldb_isLeft hm (by omega), hL k (by omega)]
      refine hx_bs (Hx.ce b01_0 (fun c1 => nxt σ x2 rfM.rf (hb.no (fun q => c1 q.1))) (fun c1 => ?_))
      have c1 := Classical.not_not.mp c1
      have ex : (x2 = iz (-1) ∨ ∃ b eb, x2 = nI b ∧ ns[b]? = some eb ∧ wkey e.1 ≤ wkey eb.1) → Hx (fX12_renews_97 k47 (fX12_renews_51 k47 n) σ m x2 (nI k)) Q := by
        intro q
        rw [n_fX12_renews_97, rf_def hm]
        refine hx_bs ?_
        rw [ld_def hm (by omega), g3]
        refine hx_bs ?_
        rw [rf_ck hm]
        refine hx_bs ?_
        refine Hx.bd (rf_findsUsed hm hB g4) (fun σ1 _ h => ?_)
        obtain ⟨r1, u1⟩ := h
        have hU : ∀ j, j < ns.length → sA σ1 (m + 21) j = nI (b01 (∀ ej, ns[j]? = some ej → Rch (Ths ns fs) e.2.1 (0, ej.1, ej.2.1))) := by
          intro j hj
          obtain ⟨ej, hej⟩ : ∃ ej, ns[j]? = some ej := ⟨_, List.getElem?_eq_getElem hj⟩
          have := (u1 j (by omega)).1 (0, ej.1, ej.2.1) (by unfold tg; rw [if_pos (by omega), hej]; rfl)
          rw [this]
          congr 2
          refine propext ⟨fun q e2 h2 => ?_, fun q => q ej hej⟩
          rw [hej] at h2
          cases h2
          exact q
        have hrd : (∀ j, j < ns.length → j ≠ k → lf j → ¬ (∀ ej, ns[j]? = some ej → Rch (Ths ns fs) e.2.1 (0, ej.1, ej.2.1))) ↔ rdR ns fs lf k := by
          constructor
          · intro g e' j ej h1 h2 h3 h4 h5
            rw [he] at h1
            cases h1
            refine g j (List.getElem?_eq_some_iff.mp h2).1 h3 h4 (fun e2 h6 => ?_)
            rw [h2] at h6
            cases h6
            exact h5
          · intro g j hj h3 h4 h5
            obtain ⟨ej, hej⟩ : ∃ ej, ns[j]? = some ej := ⟨_, List.getElem?_eq_getElem hj⟩
            exact g e j ej he hej h3 h4 (h5 ej hej)
        refine rn_113 (r1.ms hm) (hB.keepM r1 (by unfold Rnot; decide) (fun _ _ _ q => q)) (by omega) (hL.keep r1 (by decide)) hU (fun g => nxt σ1 (nI k) r1 ?_) (fun g => nxt σ1 x2 r1 (hb.no (fun q2 => g (hrd.mpr q2.2)))) FU 0 1 (by unfold FU; omega) (by omega) ?_
        · refine Or.inr ⟨k, e, rfl, by omega, c1, hrd.mp g, he, fun t ht hl hr e' he' => ?_⟩
          by_cases et : t = k
          · subst et
            rw [he] at he'
            cases he'
            exact Nat.le_refl _
          · rcases hb with ⟨b1, b2⟩ | ⟨b, eb, b1, b2, b3, b4, b5, b6⟩
            · exact absurd hr (b2 t (by omega) hl)
            · have w1 := b6 t (by omega) hl hr e' he'
              rcases q with q | ⟨b', eb', q1, q2, q3⟩
              · rw [b1] at q
                have := (nIm (k := b) (by omega)) ▸ q
                exact this.elim
              · have hb' := (List.getElem?_eq_some_iff.mp q2).1
                rw [b1] at q1
                have eb2 : b = b' := sm_inj (by omega) (by omega) q1
                subst eb2
                rw [b5] at q2
                cases q2
                omega
        · rw [b01_p (fun i hi => absurd hi (by omega))]
      refine Hx.cs (fun c2 => ex (Or.inl c2)) (fun c2 => ?_)
      rcases hb with ⟨b1, b2⟩ | ⟨b, eb, rfl, b2, b3, b4, b5, b6⟩
      · exact absurd b1 c2
      · obtain ⟨p1, p2, _⟩ := hB.2.1 b eb b5
        have hwb := hw eb (List.mem_of_getElem? b5)
        have kl : ∀ w, wd w → wkey w < 2147483648 := fun w h => Nat.lt_trans (wkey_b h.2) (by decide)
        rw [rf_word hm]
        refine hx_bs ?_
        rw [ld_word hm (by omega), p1]
        refine hx_bs ?_
        rw [rf_orderOf hwb.1 hwb.2]
        refine hx_cs ?_
        rw [rf_word hm]
        refine hx_bs ?_
        rw [ld_word hm (by omega), g1]
        refine hx_bs ?_
        rw [rf_orderOf hwe.1 hwe.2]
        refine hx_cs (Hx.ce (sm_le (kl _ hwe) (kl _ hwb)) (fun c3 => ex (Or.inr ⟨b, eb, rfl, b5, c3⟩)) (fun c3 => nxt σ _ rfM.rf (Or.inr ⟨b, eb, rfl, by omega, b3, b4, b5, fun t ht hl hr e' he' => ?_⟩)))
        by_cases et : t = k
        · subst et
          rw [he] at he'
          cases he'
          omega
        · exact b6 t (by omega) hl hr e' he'
