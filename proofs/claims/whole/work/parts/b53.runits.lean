/-! ===== the reference's calls: unit fractions ===== -/
def cdv (y x : Nat) : Nat := if 0 < y % x then y / x + 1 else y / x
def unf : Nat → Nat → Nat → Option (List Nat)
  | 0, x, _ => if x = 0 then some [] else none
  | k + 1, x, y => if x = 0 then some [] else if ¬ cdv y x < dig30 then none else
    if (x * cdv y x - y) / Nat.gcd (x * cdv y x - y) (y * cdv y x) < dig30 ∧ (y * cdv y x) / Nat.gcd (x * cdv y x - y) (y * cdv y x) < dig30 then
      (unf k ((x * cdv y x - y) / Nat.gcd (x * cdv y x - y) (y * cdv y x)) ((y * cdv y x) / Nat.gcd (x * cdv y x - y) (y * cdv y x))).map (cdv y x :: ·) else none
def unq (q : Qv) : Option (List Nat) := if 0 < q.1 ∧ q.2.1 < q.2.2 then unf 8 q.2.1 q.2.2 else none
theorem cdv_b {y x : Nat} (hx : 0 < x) (hy : 0 < y) : y ≤ x * cdv y x ∧ 0 < cdv y x ∧ cdv y x ≤ y := by
  have hdm := Nat.div_add_mod y x
  have hml := Nat.mod_lt y hx
  unfold cdv
  split
  · rename_i c
    rw [Nat.mul_succ]
    have hx2 : 2 ≤ x := by
      rcases Nat.lt_or_ge x 2 with q | q
      · have : x = 1 := by omega
        subst this
        rw [Nat.mod_one] at c
        omega
      · exact q
    have h2 : y / x ≤ y / 2 := Nat.div_le_div_left hx2 (by omega)
    generalize y / x = k at *
    generalize x * k = w at *
    generalize y % x = r at *
    omega
  · have h3 : y / x ≤ y := Nat.div_le_self y x
    have : 0 < y / x := by
      rcases Nat.eq_zero_or_pos (y / x) with q | q
      · rw [q, Nat.mul_zero] at hdm
        omega
      · exact q
    omega
/-- a value that is made leaves other registers alone -/
theorem rf_keepsMadeR {m vm x y u : Nat} {s : Int} {σ : St} (hm : MS σ m) (h5 : Fi σ m 5 (nI vm)) (hv : vm < 12600) (hu : u ≤ 978) (hx : x < 10000 ^ u) (hy : y < 10000 ^ u) (h0 : 0 < y) (hs : x ≠ 0 → s = 1 ∨ s = -1) (hA : Rv σ m 6 x) (hB : Rv σ m 7 y) :
    Hx (fX12_keepsMade σ m (iz s)) fun σ' v => rfM m [5] [1, 2] (fun j => j = vm) σ σ' ∧ (qsm (qmk s x y) → v = nI vm ∧ Fi σ' m 5 (nI (vm + 1)) ∧ Vl σ' m vm (qmk s x y)) ∧ (¬ qsm (qmk s x y) → v = iz (-1) ∧ Fi σ' m 5 (nI vm)) ∧ ∀ r z, r ∉ [6, 7, 8, 9, 10, 11, 12] → Rv σ m r z → Rv σ' m r z := by
  have w : rfM m [5] [1, 2] (fun j => j = vm) σ (wI σ (fid 16 5) m (nI (vm + 1))) := rfM.wI (by simp)
  have w0 : rfM m [5] [] nV σ (wI σ (fid 16 5) m (nI (vm + 1))) := rfM.wI (by simp)
  have hm1 : MS (wI σ (fid 16 5) m (nI (vm + 1))) m := hm
  have F1 : Fi (wI σ (fid 16 5) m (nI (vm + 1))) m 5 (nI (vm + 1)) := fi_wI
  have hA1 : Rv (wI σ (fid 16 5) m (nI (vm + 1))) m 6 x := hA
  have hB1 : Rv (wI σ (fid 16 5) m (nI (vm + 1))) m 7 y := hB
  rw [n_fX12_keepsMade, rf_ck hm]
  refine hx_bs ?_
  rw [rf_newValue hm h5 hv]
  refine hx_cs ?_
  rw [rf_ck hm1]
  refine hx_bs ?_
  obtain ⟨σ2, e2, hR2, hV2⟩ := rf_lays hm1 hv hu hx hy h0 hs hA1 hB1
  rw [e2]
  have hm2 := hR2.ms hm1
  have F2 : Fi σ2 m 5 (nI (vm + 1)) := F1.keep hR2.M (by simp)
  have kr : ∀ r z, r ∉ [6, 7, 8, 9, 10, 11, 12] → Rv σ m r z → Rv σ2 m r z := fun r z hr h => (h.kM w0 (by decide)).keepG hR2 hr
  refine hx_cs (Hx.ce nb0 (fun c => ?_) (fun c => ?_))
  · rw [fi_g hm2 F2]
    refine hx_bs ?_
    rw [sm_sub (by omega), Nat.add_sub_cancel, rf_pI hm2]
    refine hx_bs (Hx.ret ⟨(w.tr (hR2.M.mo (by simp) (fun j h => h.1))).tr (rfM.wI (by simp)), fun q => absurd q c, fun _ => ⟨rfl, fi_wI⟩, fun r z hr h => (kr r z hr h).kM (rfM.wI (F := [5]) (A := []) (V := nV) (by simp)) (by decide)⟩)
  · have c := Classical.not_not.mp c
    exact Hx.ret ⟨w.tr (hR2.M.mo (by simp) (fun j h => h.1)), fun _ => ⟨rfl, F2, hV2 c⟩, fun q => absurd c q, kr⟩
/-- unit fractions that were found -/
def UnL (σ : St) (m v0 vm : Nat) (l : List Nat) : Prop := ∀ i u, l[i]? = some u → ∃ vi, sA σ (m + 44) i = nI vi ∧ Vl σ m vi (1, u, 1) ∧ (v0 ≤ vi ∧ vi < vm)
def UnP (m v0 : Nat) (l0 : List Nat) (r : Option (List Nat)) (σ0 σ' : St) (v : Int32) : Prop := rfM m [5] [1, 2, 44] (fun j => v0 ≤ j) σ0 σ' ∧ match r with
  | some l => v = nI (l0 ++ l).length ∧ UnL σ' m v0 12600 (l0 ++ l)
  | none => v = iz (-1)
theorem UnL.kR {σ σ' : St} {m v0 vm : Nat} {l : List Nat} (h : UnL σ m v0 vm l) (hR : rfM m [] [1, 2] nV σ σ') : UnL σ' m v0 vm l := by
  intro i u hu
  obtain ⟨vi, h1, h2, h3⟩ := h i u hu
  exact ⟨vi, by rw [hR.ar 44 ⟨by decide, by omega, by omega⟩]; exact h1, h2.keepM hR (fun z => z), h3⟩
theorem rf_un_51 {m v0 : Nat} {σ0 : St} (hv0 : 600 ≤ v0 ∧ v0 + 9 ≤ 12600) : ∀ (k n x y : Nat) (l0 : List Nat) (σ : St), k < n → l0.length + k = 8 → x < dig30 → 0 < y → y < dig30 → MS σ m → rfM m [5] [1, 2, 44] (fun j => v0 ≤ j) σ0 σ → Rv σ m 13 x → Rv σ m 14 y → Fi σ m 5 (nI (v0 + l0.length)) → UnL σ m v0 (v0 + l0.length) l0 →
    Hx (fX12_findsUnits_51 n σ m (nI l0.length)) (UnP m v0 l0 (unf k x y) σ0) := by
  have hd8 := dig30_lt
  have upU : ∀ (σ : St) (vm : Nat) (l : List Nat), vm ≤ 12600 → UnL σ m v0 vm l → UnL σ m v0 12600 l := fun σ vm l hv h i u hu => by
    obtain ⟨vi, h1, h2, h3⟩ := h i u hu
    exact ⟨vi, h1, h2, by omega⟩
  intro k
  induction k with
  | zero =>
    intro n x y l0 σ hn hl hx hy0 hy hm hR hA hB h5 hU
    obtain ⟨n, rfl⟩ : ∃ j, n = j + 1 := ⟨n - 1, by omega⟩
    obtain ⟨w, w1, w2, w3⟩ := hA.z
    rw [n_fX12_findsUnits_51, rf_wide hm]
    refine hx_bs ?_
    rw [ld_wide hm (by omega), w1]
    refine hx_bs ?_
    have e : unf 0 x y = if x = 0 then some [] else none := rfl
    rw [e]
    by_cases c : x = 0
    · rw [if_pos c]
      refine Hx.ce (sm_le (by omega) (by omega)) (fun _ => ?_) (fun z => absurd z (by have := w3.mpr c; omega))
      refine Hx.ret ⟨hR, by rw [List.append_nil], ?_⟩
      rw [List.append_nil]
      exact upU σ _ _ (by omega) hU
    · rw [if_neg c]
      refine Hx.ce (sm_le (by omega) (by omega)) (fun z => absurd z (fun q => c (w3.mp (by omega)))) (fun _ => ?_)
      refine Hx.ce (sm_eq (by omega) (by omega)) (fun _ => ?_) (fun z => absurd z (by omega))
      exact Hx.ret ⟨hR, rfl⟩
  | succ k ih =>
    intro n x y l0 σ hn hl hx hy0 hy hm hR hA hB h5 hU
    obtain ⟨n, rfl⟩ : ∃ j, n = j + 1 := ⟨n - 1, by omega⟩
    obtain ⟨w, w1, w2, w3⟩ := hA.z
    rw [n_fX12_findsUnits_51, rf_wide hm]
    refine hx_bs ?_
    rw [ld_wide hm (by omega), w1]
    refine hx_bs ?_
    by_cases c : x = 0
    · have e : unf (k + 1) x y = some [] := by
        show (if x = 0 then _ else _) = _
        rw [if_pos c]
      rw [e]
      refine Hx.ce (sm_le (by omega) (by omega)) (fun _ => ?_) (fun z => absurd z (by have := w3.mpr c; omega))
      refine Hx.ret ⟨hR, by rw [List.append_nil], ?_⟩
      rw [List.append_nil]
      exact upU σ _ _ (by omega) hU
    · have hx0 : 0 < x := by omega
      obtain ⟨c1, c2, c3⟩ := cdv_b hx0 hy0
      have e : unf (k + 1) x y = if ¬ cdv y x < dig30 then none else if (x * cdv y x - y) / Nat.gcd (x * cdv y x - y) (y * cdv y x) < dig30 ∧ (y * cdv y x) / Nat.gcd (x * cdv y x - y) (y * cdv y x) < dig30 then
      (unf k ((x * cdv y x - y) / Nat.gcd (x * cdv y x - y) (y * cdv y x)) ((y * cdv y x) / Nat.gcd (x * cdv y x - y) (y * cdv y x))).map (cdv y x :: ·) else none := by
        show (if x = 0 then _ else _) = _
        rw [if_neg c]
      rw [e, if_neg (show ¬ ¬ cdv y x < dig30 by omega)]
      refine Hx.ce (sm_le (by omega) (by omega)) (fun z => absurd z (fun q => c (w3.mp (by omega)))) (fun _ => ?_)
      refine Hx.ce (sm_eq (by omega) (by omega)) (fun z => absurd z (by omega)) (fun _ => ?_)
      rw [rf_ck hm]
      refine hx_bs ?_
      obtain ⟨σ1, e1, r1, v1, v2⟩ := rf_divides (a := 14) (b := 13) (u := 8) hm (by omega) (by omega) (by omega) (by omega) (by omega) (by omega) hx0 hB hA
      rw [e1]
      refine hx_cs ?_
      have m1 := r1.ms hm
      rw [rf_ck m1]
      refine hx_bs ?_
      obtain ⟨σ2, e2, r2, v3⟩ := rf_copies (t := 6) (f := 9) m1 (by omega) (by omega) (by omega) v1
      rw [e2]
      refine hx_cs ?_
      have m2 := r2.ms m1
      rw [rf_ck m2]
      refine hx_bs ?_
      obtain ⟨σ3, e3, r3, v4⟩ := rf_puts (r := 4) (v := 1) m2 (by omega) (by omega)
      rw [e3]
      refine hx_cs ?_
      have m3 := r3.ms m2
      have A3 : Rv σ3 m 13 x := ((hA.keep r1 (by decide)).keep r2 (by decide)).keep r3 (by decide)
      have B3 : Rv σ3 m 14 y := ((hB.keep r1 (by decide)).keep r2 (by decide)).keep r3 (by decide)
      have R3 : rfM m [] [1, 2] nV σ σ3 := r1.M.tr (r2.M.tr r3.M)
      -- what follows when the whole number is there
      have g108 : ∀ σ4, MS σ4 m → rfM m [] [1, 2] nV σ σ4 → Rv σ4 m 6 (cdv y x) → Rv σ4 m 13 x → Rv σ4 m 14 y → Hx (fX12_findsUnits_108 (fX12_findsUnits_51 n) σ4 m (nI l0.length)) (UnP m v0 l0 (if (x * cdv y x - y) / Nat.gcd (x * cdv y x - y) (y * cdv y x) < dig30 ∧ (y * cdv y x) / Nat.gcd (x * cdv y x - y) (y * cdv y x) < dig30 then
      (unf k ((x * cdv y x - y) / Nat.gcd (x * cdv y x - y) (y * cdv y x)) ((y * cdv y x) / Nat.gcd (x * cdv y x - y) (y * cdv y x))).map (cdv y x :: ·) else none) σ0) := by
        intro σ4 m4 R4 N4 A4 B4
        generalize cdv y x = u at c1 c2 c3 N4 ⊢
        have hU4 := hU.kR R4
        have h54 := h5.keep R4 (by decide)
        rw [n_fX12_findsUnits_108, rf_ck m4]
        refine hx_bs ?_
        obtain ⟨σ5, e5, r5, T5⟩ := rf_copies (t := 5) (f := 6) m4 (by omega) (by omega) (by omega) N4
        rw [e5]
        refine hx_cs ?_
        have m5 := r5.ms m4
        rw [rf_ck m5]
        refine hx_bs ?_
        obtain ⟨σ6, e6, r6, D6⟩ := rf_puts (r := 7) (v := 1) m5 (by omega) (by omega)
        rw [e6]
        refine hx_cs ?_
        have m6 := r6.ms m5
        have R6 : rfM m [] [1, 2] nV σ4 σ6 := r5.M.tr r6.M
        rw [rf_unit m6]
        refine hx_bs ?_
        rw [rf_ck m6]
        refine hx_bs ?_
        have N6 : Rv σ6 m 6 u := (N4.keep r5 (by decide)).keep r6 (by decide)
        have u8 : u < 10000 ^ 8 := by omega
        refine Hx.bd (rf_keepsMadeR (s := 1) m6 (h54.keep R6 (by decide)) (by omega) (show 8 ≤ 978 by omega) u8 (by omega) (by omega) (fun _ => Or.inl rfl) N6 D6) (fun σ7 v g => ?_)
        obtain ⟨r7, g1, _, keepR⟩ := g
        have sm : qsm (qmk 1 u 1) := by rw [qmk_o]; exact ⟨by show u < dig30; omega, by show 1 < dig30; unfold dig30; omega⟩
        obtain ⟨rfl, k5, kV⟩ := g1 sm
        have kV : Vl σ7 m (v0 + l0.length) (1, u, 1) := by rw [qmk_o, if_neg (by omega)] at kV; exact kV
        have m7 := r7.ms m6
        have A7 : Rv σ7 m 13 x := keepR 13 x (by decide) ((A4.keep r5 (by decide)).keep r6 (by decide))
        have B7 : Rv σ7 m 14 y := keepR 14 y (by decide) ((B4.keep r5 (by decide)).keep r6 (by decide))
        have T7 : Rv σ7 m 5 u := keepR 5 u (by decide) (T5.keep r6 (by decide))
        rw [st_unit m7 (by omega)]
        refine hx_bs ?_
        have w8 : rfM m [] [44] nV σ7 (wA σ7 (m + 44) l0.length (nI (v0 + l0.length))) := rfM.wA (by simp) (by omega)
        obtain ⟨σ8, e8⟩ : ∃ s', s' = wA σ7 (m + 44) l0.length (nI (v0 + l0.length)) := ⟨_, rfl⟩
        rw [← e8] at w8 ⊢
        have m8 := w8.ms m7
        have q8 : sA σ8 (m + 44) l0.length = nI (v0 + l0.length) := by rw [e8, sA_wA_eq]
        rw [rf_unit m8]
        refine hx_bs ?_
        rw [ld_unit m8 (by omega), q8]
        refine hx_bs ?_
        refine Hx.ce (nIm (by omega)) (fun z => z.elim) (fun _ => ?_)
        refine hx_nm ?_
        rw [sm_add, rf_ck m8]
        refine hx_bs ?_
        have A8 := A7.kM w8 (by decide)
        have B8 := B7.kM w8 (by decide)
        have T8 := T7.kM w8 (by decide)
        have x8 : x < 10000 ^ 8 := by omega
        have y8 : y < 10000 ^ 8 := by omega
        obtain ⟨σ9, e9, r9, v9⟩ := rf_multiplies (t := 6) (a := 13) (b := 5) (u := 8) (v := 8) m8 (by omega) (by omega) (by omega) (by omega) (by omega) (by omega) x8 u8 A8 T8
        rw [e9]
        refine hx_cs ?_
        have m9 := r9.ms m8
        rw [rf_ck m9]
        refine hx_bs ?_
        obtain ⟨σ10, e10, r10, v10⟩ := rf_takesAway (t := 6) (b := 14) m9 (by omega) (by omega) (by omega) c1 v9 (B8.keep r9 (by decide))
        rw [e10]
        refine hx_cs ?_
        have m10 := r10.ms m9
        rw [rf_ck m10]
        refine hx_bs ?_
        obtain ⟨σ11, e11, r11, v11⟩ := rf_multiplies (t := 7) (a := 14) (b := 5) (u := 8) (v := 8) m10 (by omega) (by omega) (by omega) (by omega) (by omega) (by omega) y8 u8 ((B8.keep r9 (by decide)).keep r10 (by decide)) ((T8.keep r9 (by decide)).keep r10 (by decide))
        rw [e11]
        refine hx_cs ?_
        have m11 := r11.ms m10
        rw [rf_ck m11]
        refine hx_bs ?_
        have p16 : 10000 ^ 16 = 10000 ^ 8 * 10000 ^ 8 := rfl
        have xb : x * u - y < 10000 ^ 16 := by
          have : x * u < 10000 ^ 8 * 10000 ^ 8 := Nat.mul_lt_mul'' x8 u8
          omega
        have yb : y * u < 10000 ^ 16 := by
          have : y * u < 10000 ^ 8 * 10000 ^ 8 := Nat.mul_lt_mul'' y8 u8
          omega
        have yp : 0 < y * u := Nat.mul_pos hy0 c2
        obtain ⟨σ12, e12, r12, v12, v13⟩ := rf_lowers (u := 16) m11 (by omega) xb yb yp (v10.keep r11 (by decide)) v11
        rw [e12]
        refine hx_cs ?_
        have m12 := r12.ms m11
        have gp : 0 < y * u / Nat.gcd (x * u - y) (y * u) := Nat.div_pos (Nat.le_of_dvd yp (Nat.gcd_dvd_right _ _)) (Nat.gcd_pos_of_pos_right _ yp)
        generalize (x * u - y) / Nat.gcd (x * u - y) (y * u) = X at v12 ⊢
        generalize y * u / Nat.gcd (x * u - y) (y * u) = Y at v13 gp ⊢
        have R812 : rfM m [] [1, 2] nV σ8 σ12 := r9.M.tr (r10.M.tr (r11.M.tr r12.M))
        have R78 : rfM m [5] [1, 2, 44] (fun j => v0 ≤ j) σ4 σ8 := (R6.mo ⟨by decide, by decide⟩ (fun _ z => z.elim)).tr ((r7.mo ⟨by decide, by decide⟩ (fun j z => by have z : j = v0 + l0.length := z; omega)).tr (w8.mo ⟨by decide, by decide⟩ (fun _ z => z.elim)))
        have R012 : rfM m [5] [1, 2, 44] (fun j => v0 ≤ j) σ0 σ12 := hR.tr ((R4.mo ⟨by decide, by decide⟩ (fun _ z => z.elim)).tr (R78.tr (R812.mo ⟨by decide, by decide⟩ (fun _ z => z.elim))))
        rw [rf_ck m12]
        refine hx_bs ?_
        rw [rf_isSmall m12 (by omega) v12]
        refine hx_cs ?_
        by_cases s1 : X < dig30
        · rw [if_pos s1]
          refine Hx.ce (sm_eq (show 1 < 2147483648 by omega) (by omega)) (fun z => absurd z (by omega)) (fun _ => ?_)
          rw [rf_ck m12]
          refine hx_bs ?_
          rw [rf_isSmall m12 (by omega) v13]
          refine hx_cs ?_
          by_cases s2 : Y < dig30
          · rw [if_pos s2, if_pos (And.intro s1 s2)]
            refine Hx.ce (sm_eq (show 1 < 2147483648 by omega) (by omega)) (fun z => absurd z (by omega)) (fun _ => ?_)
            rw [rf_ck m12]
            refine hx_bs ?_
            obtain ⟨σ13, e13, r13, v14⟩ := rf_copies (t := 13) (f := 6) m12 (by omega) (by omega) (by omega) v12
            rw [e13]
            refine hx_cs ?_
            have m13 := r13.ms m12
            rw [rf_ck m13]
            refine hx_bs ?_
            obtain ⟨σ14, e14, r14, v15⟩ := rf_copies (t := 14) (f := 7) m13 (by omega) (by omega) (by omega) (v13.keep r13 (by decide))
            rw [e14]
            refine hx_cs ?_
            have m14 := r14.ms m13
            have R14 : rfM m [] [1, 2] nV σ8 σ14 := R812.tr (r13.M.tr r14.M)
            have R014 : rfM m [5] [1, 2, 44] (fun j => v0 ≤ j) σ0 σ14 := R012.tr ((show rfM m [] [1, 2] nV σ12 σ14 from r13.M.tr r14.M).mo ⟨by decide, by decide⟩ (fun _ z => z.elim))
            have hU8 : UnL σ8 m v0 (v0 + (l0 ++ [u]).length) (l0 ++ [u]) := by
              intro i t hi
              rw [List.length_append, List.length_singleton]
              by_cases ci : i = l0.length
              · subst ci
                rw [List.getElem?_append_right (Nat.le_refl _), Nat.sub_self] at hi
                cases hi
                exact ⟨v0 + l0.length, q8, kV.keepM w8 (fun z => z), by omega⟩
              · have hil := (List.getElem?_eq_some_iff.mp hi).1
                rw [List.length_append, List.length_singleton] at hil
                rw [List.getElem?_append_left (by omega)] at hi
                obtain ⟨vi, h1, h2, h3⟩ := hU4 i t hi
                refine ⟨vi, ?_, ((h2.keepM R6 (fun z => z)).keepM r7 (fun z => by have z : vi = v0 + l0.length := z; omega)).keepM w8 (fun z => z), by omega⟩
                rw [e8, sA_wA_j ci, r7.ar 44 ⟨by decide, by omega, by omega⟩, R6.ar 44 ⟨by decide, by omega, by omega⟩]
                exact h1
            have hlen : (l0 ++ [u]).length = l0.length + 1 := by rw [List.length_append, List.length_singleton]
            have h514 : Fi σ14 m 5 (nI (v0 + (l0 ++ [u]).length)) := by
              rw [hlen, ← Nat.add_assoc]
              exact (k5.keep w8 (by decide)).keep R14 (by decide)
            have := ih n X Y (l0 ++ [u]) σ14 (by omega) (by rw [hlen]; omega) s1 gp s2 m14 R014 (v14.keep r14 (by decide)) v15 h514 (hU8.kR R14)
            rw [hlen] at this
            refine this.mo (fun σ15 v g => ?_)
            obtain ⟨g1, g2⟩ := g
            refine ⟨g1, ?_⟩
            cases hu : unf k X Y with
            | none => rw [hu] at g2; exact g2
            | some l =>
              rw [hu] at g2
              have g2 : v = nI (l0 ++ [u] ++ l).length ∧ UnL σ15 m v0 12600 (l0 ++ [u] ++ l) := g2
              rw [List.append_assoc] at g2
              exact g2
          · rw [if_neg s2, if_neg (show ¬ (X < dig30 ∧ Y < dig30) from fun z => s2 z.2)]
            refine Hx.ce rfl (fun _ => ?_) (fun z => absurd rfl z)
            exact Hx.ret ⟨R012, rfl⟩
        · rw [if_neg s1, if_neg (show ¬ (X < dig30 ∧ Y < dig30) from fun z => s1 z.1)]
          refine Hx.ce rfl (fun _ => ?_) (fun z => absurd rfl z)
          exact Hx.ret ⟨R012, rfl⟩
      obtain ⟨w', w4, w5, w6⟩ := (Rv.keep (Rv.keep v2 r2 (by decide)) r3 (by decide) : Rv σ3 m 10 (y % x)).z
      rw [rf_wide m3]
      refine hx_bs ?_
      rw [ld_wide m3 (by omega), w4]
      refine hx_bs ?_
      refine Hx.ce (sm_le (by omega) (by omega)) (fun c4 => ?_) (fun c4 => ?_)
      · refine g108 σ3 m3 R3 ?_ A3 B3
        have : y % x = 0 := w6.mp (by omega)
        unfold cdv
        rw [if_neg (by omega)]
        exact v3.keep r3 (by decide)
      · rw [rf_ck m3]
        refine hx_bs ?_
        have hdl := Nat.div_le_self y x
        obtain ⟨σ4, e4, r4, v5⟩ := rf_adds (t := 6) (b := 4) (u := 8) m3 (by omega) (by omega) (by omega) (by omega) (by omega) (by omega) (v3.keep r3 (by decide)) v4
        rw [e4]
        refine hx_cs ?_
        refine g108 σ4 (r4.ms m3) (R3.tr r4.M) ?_ (A3.keep r4 (by decide)) (B3.keep r4 (by decide))
        have : 0 < y % x := by
          rcases Nat.eq_zero_or_pos (y % x) with q | q
          · exact absurd (w6.mpr q) (by omega)
          · exact q
        unfold cdv
        rw [if_pos this]
        exact v5

theorem rf_findsUnits {σ : St} {m v0 i : Nat} {q : Qv} (hv0 : 600 ≤ v0 ∧ v0 + 9 ≤ 12600) (hm : MS σ m) (h57 : Fi σ m 57 (nI i)) (hV : Vl σ m i q) (hi : i < 12600) (h5 : Fi σ m 5 (nI v0)) : Hx (fX12_findsUnits σ m) (UnP m v0 [] (unq q) σ) := by
  have hq := hV.1
  have hs := hq.sg
  have hd8 := dig30_lt
  rw [n_fX12_findsUnits, rf_sign hm]
  refine hx_bs ?_
  rw [fi_g hm h57]
  refine hx_bs ?_
  rw [hV.sg hm hi]
  refine hx_bs ?_
  unfold unq
  rw [show nI 0 = iz 0 from rfl]
  refine Hx.ce (iz_lt (by omega) (by omega) (by omega) (by omega)) (fun c1 => ?_) (fun c1 => ?_)
  · rw [rf_ck hm]
    refine hx_bs ?_
    refine hx_bs ?_
    rw [show iz 0 = nI 0 from rfl]
    obtain ⟨σ1, e1, r1, v1⟩ := rf_loads (r := 13) hm (by omega) hi hV 0 (by omega)
    rw [e1]
    refine hx_cs ?_
    have m1 := r1.ms hm
    have R1 : rfM m [] [1, 2] nV σ σ1 := r1.M
    rw [fi_g m1 (h57.keep R1 (by decide))]
    refine hx_bs ?_
    rw [rf_ck m1]
    refine hx_bs ?_
    obtain ⟨σ2, e2, r2, v2⟩ := rf_loads (r := 14) m1 (by omega) hi (hV.keepM R1 (fun z => z)) 1 (by omega)
    rw [e2]
    refine hx_cs ?_
    have m2 := r2.ms m1
    have R2 : rfM m [] [1, 2] nV σ σ2 := R1.tr r2.M
    have A2 : Rv σ2 m 13 q.2.1 := Rv.keep (x := q.2.1) v1 r2 (by decide)
    have B2 : Rv σ2 m 14 q.2.2 := v2
    rw [rf_ck m2]
    refine hx_bs ?_
    rw [rf_compares m2 (by omega) (by omega) A2 B2]
    refine hx_cs ?_
    have cb := cmp3_b q.2.1 q.2.2
    rw [show nI 0 = iz 0 from rfl]
    refine Hx.ce (iz_lt (by omega) (by omega) (by omega) (by omega)) (fun c2 => ?_) (fun c2 => ?_)
    · rw [if_pos (And.intro c1 (cmp3_lt.mp c2))]
      have := rf_un_51 (σ0 := σ) hv0 8 FU q.2.1 q.2.2 [] σ2 (by unfold FU; omega) rfl hq.2.2.2.2.1 hq.2.2.1 hq.2.2.2.2.2 m2 (R2.mo ⟨by decide, by decide⟩ (fun _ z => z.elim)) A2 B2 (h5.keep R2 (by decide)) (fun i u h => by cases h)
      exact this
    · rw [if_neg (fun z => c2 (cmp3_lt.mpr z.2))]
      exact Hx.ret ⟨R2.mo ⟨by decide, by decide⟩ (fun _ z => z.elim), rfl⟩
  · rw [if_neg (fun z => c1 z.1)]
    exact Hx.ret ⟨rfM.rf, rfl⟩
def unv (o : Option (List Nat)) : Int := match o with
  | some l => l.length
  | none => -1
theorem unf_len : ∀ (k x y : Nat) (l : List Nat), unf k x y = some l → l.length ≤ k
  | 0, x, y, l, h => by
    have h : (if x = 0 then some [] else none) = some l := h
    split at h
    · cases h; exact Nat.le_refl _
    · cases h
  | k + 1, x, y, l, h => by
    unfold unf at h
    split at h
    · cases h; exact Nat.zero_le _
    · split at h
      · cases h
      · split at h
        · cases hu : unf k ((x * cdv y x - y) / Nat.gcd (x * cdv y x - y) (y * cdv y x)) ((y * cdv y x) / Nat.gcd (x * cdv y x - y) (y * cdv y x)) with
          | none => rw [hu] at h; cases h
          | some l' =>
            rw [hu] at h
            cases h
            have := unf_len k _ _ l' hu
            rw [List.length_cons]
            omega
        · cases h
theorem unq_len {q : Qv} {l : List Nat} (h : unq q = some l) : l.length ≤ 8 := by
  unfold unq at h
  split at h
  · exact unf_len _ _ _ _ h
  · cases h
theorem UnP.v {m v0 : Nat} {o : Option (List Nat)} {σ σ' : St} {v : Int32} (h : UnP m v0 [] o σ σ' v) : v = iz (unv o) := by
  obtain ⟨_, h⟩ := h
  cases o with
  | none => exact h
  | some l => rw [h.1, List.nil_append]; exact sm_iz _
theorem ri_units {σ : St} {m : Nat} {c : Rct} {s : Rst} (hv : c.1 + 9 ≤ 12600) (h : RI σ m c s) : Hx (fX12_units σ m) (RV m c s (unv (unq s.2.2.2.1)) s σ) := by
  rw [n_fX12_units]
  refine rf_set0 h.1.1 (fun σ1 r1 m1 f0 => ?_)
  have h1 := h.k0 r1
  obtain ⟨ai, a1, a2⟩ := h1.2.1.1
  have h5 := h1.2.2.2.1.1
  rw [fi_g m1 h5]
  refine hx_bs ?_
  rw [rf_ck m1]
  refine hx_bs ?_
  refine Hx.bd (rf_findsUnits ⟨h1.2.2.2.2.1, hv⟩ m1 a1 a2.2 (by have := a2.1; omega) h5) (fun σ2 v g => ?_)
  have gv := g.v
  have R2 : rfM m [5] [1, 2, 42, 44] (fun j => c.1 ≤ j) σ1 σ2 := g.1.mo ⟨by decide, by decide⟩ (fun _ z => z)
  have m2 := R2.ms m1
  rw [rf_pI m2]
  refine hx_bs ?_
  have w : rfM m [5] [1, 2, 42, 44] (fun j => c.1 ≤ j) σ2 (wI σ2 (fid 16 5) m (nI c.1)) := rfM.wI (by simp)
  have h3 : RI (wI σ2 (fid 16 5) m (nI c.1)) m c s := h1.mk5 (R2.tr w) (by decide) fi_wI ⟨Nat.le_refl _, by omega⟩
  exact Hx.ret ⟨(r1.1.tr R2.1).tr w.1, gv, c, h3, RBd.rf rfl⟩
theorem ri_takeUnit {σ : St} {m : Nat} {c : Rct} {s : Rst} {z : Int} (hz : -2147483648 ≤ z ∧ z < 2147483648) (hv : c.1 + 9 ≤ 12600) (h : RI σ m c s) : Hx (fX12_takeUnit σ m (iz z)) (fun σ' v => (¬ (0 ≤ z ∧ z < unv (unq s.2.2.2.1)) → RO m c s 1 0 s σ σ' v) ∧ ∀ (l : List Nat) (u : Nat), unq s.2.2.2.1 = some l → 0 ≤ z → l[z.toNat]? = some u → RO m c s 0 (dgx u).length (setA s (1, 1, u)) σ σ' v) := by
  have hd8 := dig30_lt
  rw [n_fX12_takeUnit]
  refine rf_set0 h.1.1 (fun σ1 r1 m1 f0 => ?_)
  have h1 := h.k0 r1
  obtain ⟨ai, a1, a2⟩ := h1.2.1.1
  have h5 := h1.2.2.2.1.1
  have hl6 := h1.2.2.2.2.1
  rw [fi_g m1 h5]
  refine hx_bs ?_
  rw [rf_ck m1]
  refine hx_bs ?_
  refine Hx.bd (rf_findsUnits ⟨h1.2.2.2.2.1, hv⟩ m1 a1 a2.2 (by have := a2.1; omega) h5) (fun σ2 v g => ?_)
  have gv := g.v
  have R2 : rfM m [5] [1, 2, 42, 44] (fun j => c.1 ≤ j) σ1 σ2 := g.1.mo ⟨by decide, by decide⟩ (fun _ z => z)
  have m2 := R2.ms m1
  rw [rf_pI m2]
  refine hx_bs ?_
  have w : rfM m [5] [1, 2, 42, 44] (fun j => c.1 ≤ j) σ2 (wI σ2 (fid 16 5) m (nI c.1)) := rfM.wI (by simp)
  have w0 : rfM m [5] [] nV σ2 (wI σ2 (fid 16 5) m (nI c.1)) := rfM.wI (by simp)
  have h3 : RI (wI σ2 (fid 16 5) m (nI c.1)) m c s := h1.mk5 (R2.tr w) (by decide) fi_wI ⟨Nat.le_refl _, by omega⟩
  have f3 := (f0.keep R2 (by decide)).keep w (by decide)
  have E3 := (r1.1.tr R2.1).tr w.1
  have gU : ∀ l, unq s.2.2.2.1 = some l → UnL (wI σ2 (fid 16 5) m (nI c.1)) m c.1 12600 l := by
    intro l hl i u hu
    obtain ⟨_, g2⟩ := g
    rw [hl] at g2
    obtain ⟨vi, k1, k2, k3⟩ := g2.2 i u hu
    exact ⟨vi, k1, k2, k3⟩
  generalize wI σ2 (fid 16 5) m (nI c.1) = σ3 at h3 f3 E3 gU ⊢
  have m3 := h3.1.1
  subst gv
  have ub : -1 ≤ unv (unq s.2.2.2.1) ∧ unv (unq s.2.2.2.1) ≤ 8 := by
    unfold unv
    cases hu : unq s.2.2.2.1 with
    | none => exact ⟨Int.le_refl _, by show (-1 : Int) ≤ 8; omega⟩
    | some l =>
      have := unq_len hu
      show -1 ≤ (l.length : Int) ∧ (l.length : Int) ≤ 8
      omega
  rw [show nI 1 = iz 1 from rfl, iz_sub, show iz 1 = nI 1 from rfl]
  refine rf_tin (code := 1) hz (by omega) m3 f3 (by omega) (fun c1 => ?_) (fun c1 σ4 r4 f4 => ?_)
  · refine Hx.ce rfl (fun _ => ?_) (fun q => absurd rfl q)
    have hsome : ∃ l u, unq s.2.2.2.1 = some l ∧ l[z.toNat]? = some u := by
      cases hu : unq s.2.2.2.1 with
      | none => rw [hu] at c1; have c1 : 0 ≤ z ∧ z ≤ -1 - 1 := c1; omega
      | some l =>
        rw [hu] at c1
        have c1 : 0 ≤ z ∧ z ≤ (l.length : Int) - 1 := c1
        exact ⟨l, _, rfl, List.getElem?_eq_getElem (by omega)⟩
    obtain ⟨l, u, hl, hu⟩ := hsome
    obtain ⟨vi, k1, k2, k3⟩ := gU l hl z.toNat u hu
    have hll := unq_len hl
    have hzl := (List.getElem?_eq_some_iff.mp hu).1
    have ez : iz z = nI z.toNat := by rw [sm_iz, Int.toNat_of_nonneg c1.1]
    have ub8 : u < 10000 ^ 8 := by have := k2.1.2.2.2.2.1; have this : u < dig30 := this; omega
    have u0 : 0 < u := by
      have := k2.1.2.1
      have this : (1 : Int) = 0 ↔ u = 0 := this
      omega
    rw [rf_unit m3]
    refine hx_bs ?_
    rw [ez, ld_unit m3 (by omega), k1]
    refine hx_bs ?_
    rw [rf_ck m3]
    refine hx_bs ?_
    obtain ⟨σ4, e4, r4, v4⟩ := rf_loads (r := 7) m3 (by omega) (by omega) k2 0 (by omega)
    rw [e4]
    refine hx_cs ?_
    have m4 := r4.ms m3
    have v4 : Rv σ4 m 7 u := v4
    rw [rf_ck m4]
    refine hx_bs ?_
    obtain ⟨σ5, e5, r5, v5⟩ := rf_puts (r := 6) (v := 1) m4 (by omega) (by omega)
    rw [e5]
    refine hx_cs ?_
    have m5 := r5.ms m4
    have R35 : rfM m [] [1, 2] nV σ3 σ5 := r4.M.tr r5.M
    have h5' := h3.k12 R35
    rw [rf_ck m5]
    refine hx_bs ?_
    refine Hx.bd (rf_keepsMade (s := 1) m5 h5'.2.2.2.1.1 (by omega) (show 8 ≤ 978 by omega) (by omega) ub8 u0 (fun _ => Or.inl rfl) v5 (v4.keep r5 (by decide))) (fun σ7 v g => ?_)
    obtain ⟨r7, g1, _⟩ := g
    have eq : qmk 1 1 u = (1, 1, u) := by
      unfold qmk
      rw [Nat.gcd_one_left, Nat.div_one, Nat.div_one, if_neg (by omega)]
    rw [eq] at g1
    obtain ⟨rfl, k5, kV⟩ := g1 ⟨by show 1 < dig30; unfold dig30; omega, k2.1.2.2.2.2.1⟩
    have m7 := r7.ms m5
    have R7 : rfM m [5] [1, 2, 42, 44] (fun j => c.1 ≤ j) σ5 σ7 := r7.mo ⟨by decide, by decide⟩ (fun j q => by have q : j = c.1 := q; omega)
    have h7 := h5'.mk5 R7 (by decide) k5 ⟨by omega, by omega⟩
    rw [rf_ck m7]
    refine hx_bs ?_
    refine Hx.bd (ri_becomes (c := (c.1 + 1, c.2)) h7 (show c.1 + 1 < 12600 by omega) kV (Or.inr (Nat.lt_succ_self _))) (fun σ8 v g => ?_)
    obtain ⟨rfl, r8, c', h8, k6, k7⟩ := g
    have k6 : c.1 + 1 ≤ c'.1 ∧ c'.1 ≤ c.1 + 1 + 1 := k6
    have m8 := h8.1.1
    obtain ⟨bi, b1, b2⟩ := h8.2.1.1
    rw [rf_ck m8]
    refine hx_bs ?_
    refine Hx.bd (rf_drafts (b := 1) m8 b1 b2.2 (by have := b2.1; omega) (by omega)) (fun σ9 _ g => ?_)
    obtain ⟨r9, d9⟩ := g
    have d9 : RDr σ9 m (cod (dgx u)) := d9
    rw [fi_g (r9.ms m8) d9.1, cod_len]
    refine hx_bs (Hx.ret ⟨fun z => absurd (by omega) z, fun l' u' hl' _ hu' => ?_⟩)
    rw [hl] at hl'
    cases hl'
    rw [hu] at hu'
    cases hu'
    refine ⟨((E3.tr R35.1).tr r7.1).tr (r8.1.tr r9.1), (((f3.keep R35 (by decide)).keep r7 (by decide)).keep r8 (by decide)).keep r9 (by decide), fun _ => sm_iz _, c', h8.kd r9 ⟨by decide, by decide⟩, ?_⟩
    unfold RBd
    rw [k7]
    show c'.1 + s.1.length ≤ _ ∧ c.2.1 + s.1.length ≤ _ ∧ c.2.2 ≤ _
    omega
  · refine Hx.ce (sm_eq (show 1 < 2147483648 by omega) (by omega)) (fun z => absurd z (by omega)) (fun _ => ?_)
    refine Hx.ret ⟨fun _ => ⟨E3.tr r4.1, f4, fun q => (by cases q), c, h3.k0 r4, RBd.rf rfl⟩, fun l u hl h0 hu => ?_⟩
    have := (List.getElem?_eq_some_iff.mp hu).1
    rw [hl] at c1
    have c1 : ¬ (0 ≤ z ∧ z ≤ (l.length : Int) - 1) := c1
    omega
