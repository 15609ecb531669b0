/-! ===== a line refused ahead of all steps ===== -/
def sgw (e : Th) : Int := if e.1 = 0 then (e.2.1 : Int) else -(e.2.1 : Int)
noncomputable def pif {α : Type} (p : Prop) (a b : α) : α := @ite _ p (Classical.propDecidable p) a b
theorem pif_p {α : Type} {p : Prop} {a b : α} (h : p) : pif p a b = a := by unfold pif; exact if_pos h
theorem pif_n {α : Type} {p : Prop} {a b : α} (h : ¬ p) : pif p a b = b := by unfold pif; exact if_neg h
noncomputable def rngO (T : List Th) : Nat → List It → Th → Option (List Int)
  | 0, _, _ => none
  | n + 1, l, t => (pick T l t).bind fun x => pif (x = t) (some []) ((rngO T n x.2.2 t).map (sgw x :: ·))
def thN (ns : List NE) (w : Nat) : Option Th := (fix (ns.map (·.1)) w).bind fun k => ns[k]?.map fun e => (0, e.1, e.2.1)
def thF (fs : List FE) (w : Nat) : Option Th := (fix (fs.map (·.1)) w).bind fun k => fs[k]?.map fun e => (1, e.1, e.2.2)
def thO (ns : List NE) (fs : List FE) (form w : Nat) : Option Th := if form = 2 then thF fs w else thN ns w
/-- other things use it -/
def usT (T : List Th) (e : Th) : Prop := ∃ e' ∈ T, e' ≠ e ∧ Rch T e'.2.2 e
/-- taken -/
def tkn (ns : List NE) (fs : List FE) (T : List Th) (form told np : Nat) : Prop := 0 < known told ∨ form = 2 ∧ ∃ q e, fnp fs told = some q ∧ thF fs told = some e ∧ q ≠ np ∧ usT T e
noncomputable def rfs (ns : List NE) (fs : List FE) (T : List Th) (form told tAt np : Nat) (l : List It) : Option (Nat × Nat × List Int) :=
  match unk ns fs l with
  | some p => some (1, p, [])
  | none => if form = 0 then none else pif (tkn ns fs T form told np) (some (2, tAt, []))
    (match thO ns fs form told with
    | none => if (form = 1 ∧ ns.length = 20) ∨ (form ≠ 1 ∧ fs.length = 10) then some (3, tAt, []) else none
    | some e => pif (Rch T l e) (some (4, tAt, sgw e :: (rngO T 30 l e).getD [])) none)
theorem thN_fix {ns : List NE} {fs : List FE} {w k : Nat} (hl : ns.length ≤ 20) (h : fix (ns.map (·.1)) w = some k) : ∃ e, thN ns w = some e ∧ tg ns fs k = some e ∧ e.1 = 0 ∧ e.2.1 = w := by
  have hg := fix_get h
  have hk := fix_lt h
  rw [List.getElem?_map] at hg
  cases he : ns[k]? with
  | none => rw [he] at hg; cases hg
  | some x =>
    rw [he] at hg
    cases hg
    refine ⟨(0, x.1, x.2.1), ?_, ?_, rfl, rfl⟩
    · unfold thN
      rw [h]
      show (ns[k]?.map _) = _
      rw [he]
      rfl
    · unfold tg
      rw [if_pos (by simp at hk; omega), he]
      rfl
theorem thF_fix {ns : List NE} {fs : List FE} {w k : Nat} (h : fix (fs.map (·.1)) w = some k) : ∃ e, thF fs w = some e ∧ tg ns fs (20 + k) = some e ∧ e.1 = 1 ∧ e.2.1 = w := by
  have hg := fix_get h
  rw [List.getElem?_map] at hg
  cases he : fs[k]? with
  | none => rw [he] at hg; cases hg
  | some x =>
    rw [he] at hg
    cases hg
    refine ⟨(1, x.1, x.2.2), ?_, ?_, rfl, rfl⟩
    · unfold thF
      rw [h]
      show (fs[k]?.map _) = _
      rw [he]
      rfl
    · unfold tg
      rw [if_neg (by omega), Nat.add_sub_cancel_left, he]
      rfl
theorem thN_none {ns : List NE} {w : Nat} (h : fix (ns.map (·.1)) w = none) : thN ns w = none := by unfold thN; rw [h]; rfl
theorem thF_none {fs : List FE} {w : Nat} (h : fix (fs.map (·.1)) w = none) : thF fs w = none := by unfold thF; rw [h]; rfl
/-- words once -/
def Nod (ns : List NE) (fs : List FE) : Prop := (ns.map (·.1)).Nodup ∧ (fs.map (·.1)).Nodup
theorem nodup_ix {α β : Type} {f : α → β} {l : List α} (h : (l.map f).Nodup) {i j : Nat} {a b : α} (hi : l[i]? = some a) (hj : l[j]? = some b) (e : f a = f b) : i = j := by
  obtain ⟨h1, h2⟩ := List.getElem?_eq_some_iff.mp hi
  obtain ⟨h3, h4⟩ := List.getElem?_eq_some_iff.mp hj
  have key := (List.nodup_iff_pairwise_ne.mp h)
  rw [List.pairwise_iff_getElem] at key
  rcases Nat.lt_trichotomy i j with hlt | heq | hgt
  · have := key i j (by simpa using h1) (by simpa using h3) hlt
    simp [h2, h4] at this
    exact absurd e this
  · exact heq
  · have := key j i (by simpa using h3) (by simpa using h1) hgt
    simp [h2, h4] at this
    exact absurd e.symm this
theorem tg_inj {ns : List NE} {fs : List FE} (hN : Nod ns fs) {i j : Nat} {a b : Th} (hi : tg ns fs i = some a) (hj : tg ns fs j = some b) (e1 : a.1 = b.1) (e2 : a.2.1 = b.2.1) : i = j := by
  have ki := tg_kind hi
  have kj := tg_kind hj
  have hc : (i < 20) = (j < 20) := by
    apply propext
    rw [e1] at ki
    constructor
    · intro h
      rw [if_pos h] at ki
      apply Classical.byContradiction
      intro h9
      rw [if_neg h9] at kj
      omega
    · intro h
      rw [if_pos h] at kj
      apply Classical.byContradiction
      intro h9
      rw [if_neg h9] at ki
      omega
  unfold tg at hi hj
  by_cases h : i < 20
  · have h2 : j < 20 := hc ▸ h
    rw [if_pos h] at hi
    rw [if_pos h2] at hj
    cases hx : ns[i]? with
    | none => rw [hx] at hi; cases hi
    | some x =>
      cases hy : ns[j]? with
      | none => rw [hy] at hj; cases hj
      | some y =>
        rw [hx] at hi
        rw [hy] at hj
        cases hi
        cases hj
        exact nodup_ix hN.1 hx hy e2
  · have h2 : ¬ j < 20 := hc ▸ h
    rw [if_neg h] at hi
    rw [if_neg h2] at hj
    cases hx : fs[i - 20]? with
    | none => rw [hx] at hi; cases hi
    | some x =>
      cases hy : fs[j - 20]? with
      | none => rw [hy] at hj; cases hj
      | some y =>
        rw [hx] at hi
        rw [hy] at hj
        cases hi
        cases hj
        have := nodup_ix hN.2 hx hy e2
        omega
theorem usd_iff {ns : List NE} {fs : List FE} {T : List Th} {t : Nat} {e : Th} (hl : ns.length ≤ 20 ∧ fs.length ≤ 10) (hN : Nod ns fs) (hTm : ∀ e, e ∈ Ths ns fs ↔ e ∈ T) (ht : tg ns fs t = some e) : usd ns fs t e ↔ usT T e := by
  constructor
  · rintro ⟨o, e', h1, h2, h3, h4⟩
    refine ⟨e', (hTm _).mp (tg_mem h3), fun h => ?_, (Rch.congr hTm).mp h4⟩
    subst h
    exact h2 (tg_inj hN h3 ht rfl rfl)
  · rintro ⟨e', h1, h2, h3⟩
    obtain ⟨o, ho, hoe⟩ := tg_of hl.1 hl.2 ((hTm _).mpr h1)
    refine ⟨o, e', ho, fun h => ?_, hoe, (Rch.congr hTm).mpr h3⟩
    subst h
    rw [ht] at hoe
    cases hoe
    exact h2 rfl
/-- what it needs of the book -/
def Bok (ns : List NE) (fs : List FE) (T : List Th) : Prop := T.Pairwise thlt ∧ (∀ e, e ∈ Ths ns fs ↔ e ∈ T) ∧ Wds ns fs ∧ Nod ns fs
theorem hx_bs {α β : Type} {v : β} {f : β → Option (St × α)} {P : St → α → Prop} (h : Hx (f v) P) : Hx (Option.bind (some v) f) P := h
theorem hx_cs {α β : Type} {σ : St} {v : β} {k : St → β → Option (St × α)} {P : St → α → Prop} (h : Hx (k σ v) P) : Hx (cb (some (σ, v)) k) P := h
theorem hx_t {α : Type} {d : Decidable True} {a b : Option (St × α)} {P : St → α → Prop} (h : Hx a P) : Hx (@ite _ True d a b) P := by rw [if_pos trivial]; exact h
theorem hx_f {α : Type} {d : Decidable False} {a b : Option (St × α)} {P : St → α → Prop} (h : Hx b P) : Hx (@ite _ False d a b) P := by rw [if_neg id]; exact h
theorem hx_nm {α β : Type} {e : β} {k : β → Option (St × α)} {P : St → α → Prop} (h : Hx (k e) P) : Hx (nm e k) P := h
/-- the ring, as the loop writes it from place k on -/
theorem rf_ring_loop {m vm t : Nat} {ns : List NE} {fs : List FE} {T : List Th} {e : Th} (hK : Bok ns fs T) (hte : tg ns fs t = some e) : ∀ (n N : Nat) (σ : St) (o : Option Nat) (d np k : Nat) (l : List It) (rg : List Int), n < N → MS σ m → Rbk σ m vm ns fs → Dfn σ m vm d l np → rngO T n l e = some rg → k + n ≤ 30 → Fi σ m 46 (nI k) → (o = none ∨ ∃ i x, o = some i ∧ i ≠ t ∧ tg ns fs i = some x) → 
    Hx (fX12_isRefused_205 N σ m (nI t) (nI 1) (iz (oi o)) (nI d)) fun σ' v => v = nI 1 ∧ rfM m [46] [21, 35] nV σ σ' ∧ Fi σ' m 46 (nI (k + 1 + rg.length)) ∧ sA σ' (m + 35) k = iz (sgw (match o with | none => e | some i => (tg ns fs i).getD e)) ∧ (∀ j, j < k → sA σ' (m + 35) j = sA σ (m + 35) j) ∧ ∀ j z, rg[j]? = some z → sA σ' (m + 35) (k + 1 + j) = iz z := by
  intro n
  induction n with
  | zero => intro N σ o d np k l rg _ _ _ _ h; cases h
  | succ n ih =>
    intro N σ o d np k l rg hN hm hB hD hrg hk hF ho
    obtain ⟨N, rfl⟩ : ∃ N', N = N' + 1 := ⟨N - 1, by omega⟩
    obtain ⟨t30, wt, wtl, _⟩ := hB.pos hte
    have hF' : sI σ (fid 16 46) m = nI k := hF
    have hd9 : d < 600 := hD.1
    rw [fX12_isRefused_205]
    unfold rngO at hrg
    cases hp : pick T l e with
    | none => rw [hp] at hrg; cases hrg
    | some x =>
      rw [hp] at hrg
      simp only [Option.bind] at hrg
      have hps := pick_some hp
      -- one round, its place known
      have round : ∀ (i : Nat) (y : Th), tg ns fs i = some y → Hx (fX12_isRefused_223 (fX12_isRefused_205 N) σ m (nI t) (nI 1) (nI d) (nI i)) fun σ' v => v = nI 1 ∧ rfM m [46] [21, 35] nV σ σ' ∧ Fi σ' m 46 (nI (k + 1 + rg.length)) ∧ sA σ' (m + 35) k = iz (sgw y) ∧ (∀ j, j < k → sA σ' (m + 35) j = sA σ (m + 35) j) ∧ ∀ j z, rg[j]? = some z → sA σ' (m + 35) (k + 1 + j) = iz z := by
        intro i y hiy
        obtain ⟨i30, wi, wil, _⟩ := hB.pos hiy
        have ki := tg_kind hiy
        have c259 : Hx (fX12_isRefused_259 (fX12_isRefused_205 N) σ m (nI t) (nI 1) (nI d) (m + 35) (nI k) (iz (sgw y))) fun σ' v => v = nI 1 ∧ rfM m [46] [21, 35] nV σ σ' ∧ Fi σ' m 46 (nI (k + 1 + rg.length)) ∧ sA σ' (m + 35) k = iz (sgw y) ∧ (∀ j, j < k → sA σ' (m + 35) j = sA σ (m + 35) j) ∧ ∀ j z, rg[j]? = some z → sA σ' (m + 35) (k + 1 + j) = iz z := by
          unfold fX12_isRefused_259
          have w1 : rfM m [46] [35] nV σ (wA σ (m + 35) k (iz (sgw y))) := rfM.wA (by simp) (by omega)
          have w2 : rfM m [46] [35] nV (wA σ (m + 35) k (iz (sgw y))) (wI (wA σ (m + 35) k (iz (sgw y))) (fid 16 46) m (nI (k + 1))) := rfM.wI (by simp)
          have W := w1.tr w2
          (try simp (disch := first | assumption | ((repeat (first | apply MS_A | apply MS_I)) <;> assumption) | omega | exact Or.inr rfl | exact Or.inl rfl) only [sm_bind, sm_cb, sm_nm, lits, sm_add, sm_mul, sm_le, sm_lt, sm_eq, sm_div, sm_sub, mx_le, mx_lt, mx_eq, xm_le, xm_lt, xm_eq, iz_le, iz_lt, iz_eq, nb0, nb1, sA_wA_b, sA_wA_eq, Nat.zero_le, ↓reduceIte, not_true_eq_false, not_false_eq_true, eq_self, Nat.reduceEqDiff, Bool.false_eq_true, rf_ck, rf_ringWord, ld_ringWord, st_ringWord, rf_gI, rf_pI, sI_wA_, hF'])
          generalize hσ1 : wI (wA σ (m + 35) k (iz (sgw y))) (fid 16 46) m (nI (k + 1)) = σ1 at W ⊢
          have hm1 := W.ms hm
          have hB1 := hB.keepM W (by simp [Rnot]) (fun _ _ _ h => h)
          have hD1 := hD.keepM W (by simp) (fun _ _ _ h => h)
          have hF1 : Fi σ1 m 46 (nI (k + 1)) := by rw [← hσ1]; exact sI_wI_eq
          have r1 : sA σ1 (m + 35) k = iz (sgw y) := by rw [← hσ1]; exact sA_wA_eq
          have r2 : ∀ j, j ≠ k → sA σ1 (m + 35) j = sA σ (m + 35) j := by
            intro j hj
            rw [← hσ1]
            exact sA_wA_j hj
          (try simp (disch := first | assumption | ((repeat (first | apply MS_A | apply MS_I)) <;> assumption) | omega | exact Or.inr rfl | exact Or.inl rfl) only [sm_bind, sm_cb, sm_nm, lits, sm_add, sm_mul, sm_le, sm_lt, sm_eq, sm_div, sm_sub, mx_le, mx_lt, mx_eq, xm_le, xm_lt, xm_eq, iz_le, iz_lt, iz_eq, nb0, nb1, sA_wA_b, sA_wA_eq, Nat.zero_le, ↓reduceIte, not_true_eq_false, not_false_eq_true, eq_self, Nat.reduceEqDiff, Bool.false_eq_true, rf_ck])
          refine Hx.bd (rf_leads hK.1 hK.2.1 hK.2.2.1 hte (fun q hq => tg_inj hK.2.2.2 hq hte rfl rfl) hm1 hB1 hD1) ?_
          rintro σ2 v ⟨⟨i2, rfl, hi2, hi30⟩, hR2⟩
          rw [hp] at hi2
          cases i2 with
          | none => cases hi2
          | some i2 =>
            have hi2' : tg ns fs i2 = some x := hi2
            have hm2 := hR2.ms hm1
            have hB2 := hB1.keepM hR2 (by simp [Rnot]) (fun _ _ _ h => h)
            obtain ⟨_, _, _, d2, np2, hd2, hD2⟩ := hB2.pos hi2'
            have i230 := hi30 i2 rfl
            have oi2 : iz (oi (some i2)) = nI i2 := (sm_iz i2).symm
            rw [oi2]
            (try simp (disch := first | assumption | ((repeat (first | apply MS_A | apply MS_I)) <;> assumption) | omega | exact Or.inr rfl | exact Or.inl rfl) only [sm_bind, sm_cb, sm_nm, lits, sm_add, sm_mul, sm_le, sm_lt, sm_eq, sm_div, sm_sub, mx_le, mx_lt, mx_eq, xm_le, xm_lt, xm_eq, iz_le, iz_lt, iz_eq, nb0, nb1, sA_wA_b, sA_wA_eq, Nat.zero_le, ↓reduceIte, not_true_eq_false, not_false_eq_true, eq_self, Nat.reduceEqDiff, Bool.false_eq_true, rf_ck, rf_def, ld_def, st_def, hd2])
            by_cases hxe : x = e
            · have : i2 = t := tg_inj hK.2.2.2 hi2' hte (by rw [hxe]) (by rw [hxe])
              subst this
              rw [pif_p hxe] at hrg
              cases hrg
              obtain ⟨N2, rfl⟩ : ∃ N2, N = N2 + 1 := ⟨N - 1, by omega⟩
              rw [fX12_isRefused_205]
              have hz := ckZ_b (b := 1) (by omega)
              (try simp (disch := first | assumption | ((repeat (first | apply MS_A | apply MS_I)) <;> assumption) | omega | exact Or.inr rfl | exact Or.inl rfl) only [sm_bind, sm_cb, sm_nm, lits, sm_add, sm_mul, sm_le, sm_lt, sm_eq, sm_div, sm_sub, mx_le, mx_lt, mx_eq, xm_le, xm_lt, xm_eq, iz_le, iz_lt, iz_eq, nb0, nb1, sA_wA_b, sA_wA_eq, Nat.zero_le, ↓reduceIte, not_true_eq_false, not_false_eq_true, eq_self, Nat.reduceEqDiff, Bool.false_eq_true, rf_ck, hz])
              exact Hx.ret ⟨rfl, (W.mo (by simp) (fun _ h => h)).tr (hR2.mo (by simp) (fun _ h => h)), by simpa using hF1.keep hR2 (by simp), by rw [hR2.ar 35 (by simp)]; exact r1, fun j hj => by rw [hR2.ar 35 (by simp)]; exact r2 j (by omega), fun j z hj => by simp at hj⟩
            · rw [pif_n hxe] at hrg
              have hne : i2 ≠ t := by
                intro h
                subst h
                rw [hte] at hi2'
                cases hi2'
                exact hxe rfl
              cases hr2 : rngO T n x.2.2 e with
              | none => rw [hr2] at hrg; cases hrg
              | some rg2 =>
                rw [hr2] at hrg
                cases hrg
                have := ih N σ2 (some i2) d2 np2 (k + 1) x.2.2 rg2 (by omega) hm2 hB2 hD2 hr2 (by omega) (hF1.keep hR2 (by simp)) (Or.inr ⟨i2, x, rfl, hne, hi2'⟩)
                rw [oi2] at this
                refine this.mo ?_
                rintro σ3 v ⟨q1, q2, q3, q4, q5, q6⟩
                simp only [hi2', Option.getD_some] at q4
                refine ⟨q1, (W.mo (by simp) (fun _ h => h)).tr ((hR2.mo (by simp) (fun _ h => h)).tr q2), by simp only [List.length_cons]; rw [show k + 1 + (rg2.length + 1) = k + 1 + 1 + rg2.length by omega]; exact q3, ?_, fun j hj => ?_, fun j z hj => ?_⟩
                · rw [q5 k (by omega), hR2.ar 35 (by simp)]; exact r1
                · rw [q5 j (by omega), hR2.ar 35 (by simp)]; exact r2 j (by omega)
                · cases j with
                  | zero => cases hj; exact q4
                  | succ j =>
                    rw [List.getElem?_cons_succ] at hj
                    rw [show k + 1 + (j + 1) = k + 1 + 1 + j by omega]
                    exact q6 j z hj
        unfold fX12_isRefused_223
        unfold sgw at c259
        by_cases h20 : i < 20
        · have h20' : ¬ 20 ≤ i := by omega
          rw [if_pos h20] at ki
          rw [if_pos ki, ← sm_iz] at c259
          unfold sgw
          rw [if_pos ki, ← sm_iz]
          (try simp (disch := first | assumption | ((repeat (first | apply MS_A | apply MS_I)) <;> assumption) | omega | exact Or.inr rfl | exact Or.inl rfl) only [sm_bind, sm_cb, sm_nm, lits, sm_add, sm_mul, sm_le, sm_lt, sm_eq, sm_div, sm_sub, mx_le, mx_lt, mx_eq, xm_le, xm_lt, xm_eq, iz_le, iz_lt, iz_eq, nb0, nb1, sA_wA_b, sA_wA_eq, Nat.zero_le, ↓reduceIte, not_true_eq_false, not_false_eq_true, eq_self, Nat.reduceEqDiff, Bool.false_eq_true, rf_ck, rf_ringWord, ld_ringWord, st_ringWord, rf_gI, rf_pI, rf_word, ld_word, st_word, hF', h20', wi])
          exact c259
        · have h20' : 20 ≤ i := by omega
          rw [if_neg h20] at ki
          have ki' : ¬ y.1 = 0 := by omega
          rw [if_neg ki'] at c259
          unfold sgw
          rw [if_neg ki']
          have eng : nI 0 - nI y.2.1 = iz (-(y.2.1 : Int)) := by rw [sm_iz y.2.1, iz_ng]
          simp only [lits]
          (try simp (disch := first | assumption | ((repeat (first | apply MS_A | apply MS_I)) <;> assumption) | omega | exact Or.inr rfl | exact Or.inl rfl) only [sm_bind, sm_cb, sm_nm, lits, sm_add, sm_mul, sm_le, sm_lt, sm_eq, sm_div, sm_sub, mx_le, mx_lt, mx_eq, xm_le, xm_lt, xm_eq, iz_le, iz_lt, iz_eq, nb0, nb1, sA_wA_b, sA_wA_eq, Nat.zero_le, ↓reduceIte, not_true_eq_false, not_false_eq_true, eq_self, Nat.reduceEqDiff, Bool.false_eq_true, rf_ck, rf_ringWord, ld_ringWord, st_ringWord, rf_gI, rf_pI, rf_word, ld_word, st_word, hF', h20', wi, eng])
          exact c259
      rcases ho with h | ⟨i, y, h, hi, hiy⟩
      · subst h
        have hnt : ¬ ((-1 : Int) = (t : Int)) := by omega
        rw [show oi none = -1 from rfl]
        (try simp (disch := first | assumption | ((repeat (first | apply MS_A | apply MS_I)) <;> assumption) | omega | exact Or.inr rfl | exact Or.inl rfl) only [sm_bind, sm_cb, sm_nm, lits, sm_add, sm_mul, sm_le, sm_lt, sm_eq, sm_div, sm_sub, mx_le, mx_lt, mx_eq, xm_le, xm_lt, xm_eq, iz_le, iz_lt, iz_eq, nb0, nb1, sA_wA_b, sA_wA_eq, Nat.zero_le, ↓reduceIte, not_true_eq_false, not_false_eq_true, eq_self, Nat.reduceEqDiff, Bool.false_eq_true, rf_ck, neg1', hnt])
        exact round t e hte
      · subst h
        have hi30 := (hB.pos hiy).1
        have hnt : ¬ ((i : Int) = -1) := by omega
        rw [show iz (oi (some i)) = nI i from (sm_iz i).symm]
        (try simp (disch := first | assumption | ((repeat (first | apply MS_A | apply MS_I)) <;> assumption) | omega | exact Or.inr rfl | exact Or.inl rfl) only [sm_bind, sm_cb, sm_nm, lits, sm_add, sm_mul, sm_le, sm_lt, sm_eq, sm_div, sm_sub, mx_le, mx_lt, mx_eq, xm_le, xm_lt, xm_eq, iz_le, iz_lt, iz_eq, nb0, nb1, sA_wA_b, sA_wA_eq, Nat.zero_le, ↓reduceIte, not_true_eq_false, not_false_eq_true, eq_self, Nat.reduceEqDiff, Bool.false_eq_true, rf_ck, neg1', hi, hnt])
        have := round i y hiy
        simp only [hiy, Option.getD_some]
        exact this
/-- how it ends: not refused, or refused with cause, place and ring -/
def Rfp (σ : St) (m : Nat) (o : Option (Nat × Nat × List Int)) (σ' : St) (v : Int32) : Prop := match o with
  | none => v = nI 0 ∧ rfM m [] [21] nV σ σ'
  | some (c, p, rg) => v = nI 1 ∧ rfM m [43, 44, 45, 46] [21, 35] nV σ σ' ∧ Fi σ' m 43 (nI c) ∧ Fi σ' m 44 (nI p) ∧ Fi σ' m 45 (iz (-1)) ∧ Fi σ' m 46 (nI rg.length) ∧ rg.length ≤ 30 ∧ ∀ j z, rg[j]? = some z → sA σ' (m + 35) j = iz z
theorem rngO_len {T : List Th} : ∀ {n : Nat} {l : List It} {e : Th} {rg : List Int}, rngO T n l e = some rg → rg.length < n := by
  intro n
  induction n with
  | zero => intro l e rg h; cases h
  | succ n ih =>
    intro l e rg h
    unfold rngO at h
    cases hp : pick T l e with
    | none => rw [hp] at h; cases h
    | some x =>
      rw [hp] at h
      simp only [Option.bind] at h
      by_cases hx : x = e
      · rw [pif_p hx] at h; cases h; simp
      · rw [pif_n hx] at h
        cases hr : rngO T n x.2.2 e with
        | none => rw [hr] at h; cases h
        | some r2 => rw [hr] at h; cases h; have := ih hr; simp; omega
theorem rf_refuse1 {m c p : Nat} {σ σ0 : St} (hm : MS σ m) (hR : rfM m [] [21] nV σ0 σ) : Hx (fX12_refuses σ m (nI c) (nI p)) (fun σ' v => v = nI 1 ∧ Rfp σ0 m (some (c, p, [])) σ' (nI 1)) := by
  refine (rf_refuses hm).mo ?_
  rintro σ' v ⟨h1, h2, h3, h4, h5, h6⟩
  exact ⟨h1, rfl, (hR.mo (by simp) (fun _ h => h)).tr (h2.mo (by simp) (fun _ h => h)), h3, h4, h5, h6, by simp, fun j z hj => by simp at hj⟩
