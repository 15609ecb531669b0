/-! ===== the start of the law: both are made ===== -/
def Scp (σ : St) (x b L : Nat) (xs : Nat → Int32) : Prop := b < x ∧ sK σ b = 150 ∧ sN σ b = L ∧ ∀ i, sA σ b i = xs i
def Bgn (σ : St) (x kw tn b L : Nat) (xs : Nat → Int32) : Prop := Vw x kw tn σ ∧ RI σ (x + 98) (601, 0, 0) rst0 ∧ Jn σ x ∧ Scp σ x b L xs ∧ sc σ = 144 ∧ sw σ = 4055 + lsum RfL
theorem RfL_len : RfL.length = 44 := rfl
theorem law_bgn {z b kw tn L : Nat} {xs : Nat → Int32} (hb : 0 < b ∧ b < z) (hkw : 0 < kw ∧ kw < z) (htn : 0 < tn ∧ tn < z) (e1 : b ≠ kw) (e2 : b ≠ tn) (e3 : kw ≠ tn) {c9 w9 : Nat} (hloop : ∀ σ, Bgn σ z kw tn b L xs → pL_law_23 c9 w9 FU σ b z (z + 98) (z + 143) 0) : pL_law c9 w9 (st0 z b kw tn L xs) b := by
  have hz0 : 0 < z := by omega
  have base : Cst z (st0 z b kw tn L xs) 0 0 [] [] [] [] [] (st0 z b kw tn L xs) := by
    refine ⟨⟨rfl, rfl, rfl⟩, fun _ _ => ⟨rfl, rfl, fun _ => rfl, fun _ => rfl, fun _ => rfl, fun _ => rfl, fun _ => rfl⟩, fun a ha => ?_, ⟨fun o ho => absurd ho (Nat.not_lt_zero _), fun f o ho => absurd ho (Nat.not_lt_zero _), fun f o ho => absurd ho (Nat.not_lt_zero _), fun o i ho => absurd ho (Nat.not_lt_zero _), fun o i ho => absurd ho (Nat.not_lt_zero _)⟩, ⟨fun e he => (by cases he), fun e he => (by cases he), fun e he => (by cases he), fun e he => (by cases he)⟩, hz0⟩
    show (if a = b ∨ a = kw ∨ a = tn then 150 else 0) = 0
    exact if_neg (by omega)
  have h1 := cs_nw (κ := 16) (n := 0) (w := 19) base
  unfold pL_law
  show exB (ckK (nw 16 0 19 (st0 z b kw tn L xs)) 16 z) _
  refine ⟨(), sm_ckK ((h1.2.2.2.1.1 0 (by omega)).1), ?_⟩
  obtain ⟨σ3, _, e3', h3⟩ := ci_main h1
  refine ⟨σ3, (), e3', ?_⟩
  obtain ⟨⟨z1, z2, z3⟩, hS, hout, hcells, _, _⟩ := h3
  show exB (ckK (nw 17 0 83 σ3) 17 (sz σ3)) _
  rw [z1]
  have k17 : sK (nw 17 0 83 σ3) (z + 98) = 17 := if_pos z1.symm
  refine ⟨(), sm_ckK k17, ?_⟩
  have hStg : Stg (z + 98) σ3 [] [] (nw 17 0 83 σ3) := by
    refine ⟨⟨by show sz σ3 + 1 = _; rw [z1]; rfl, rfl, rfl⟩, fun r hr => ?_, k17, fun j t hj => (by cases hj), fun f => ?_, fun r hr => ?_⟩
    · have e : r ≠ sz σ3 := by omega
      exact ⟨if_neg e, if_neg e, fun _ => if_neg e, fun _ => if_neg e, fun _ => if_neg e, fun _ => if_neg e, fun _ => if_neg e⟩
    · rw [if_neg (by simp)]
      exact if_pos z1.symm
    · have hr : sz σ3 + 1 ≤ r := hr
      exact if_neg (by omega)
  obtain ⟨σ8, v9, e8, hRI, σr, ⟨⟨y1, y2, y3⟩, yS, yK, yL, yI, yO⟩, hE⟩ := ri_init hStg (by omega)
  refine ⟨σ8, v9, e8, ?_⟩
  obtain ⟨⟨a1, a2, a3, a4, a5⟩, ⟨a6, a7, a8⟩, a9, a10⟩ := hE
  rw [RfL_len] at y1 y2
  have zs8 : sz σ8 = z + 143 := by omega
  refine ⟨nw 103 1 1 σ8, nwA_k (ti := 3) (m := 1) (by omega), ?_⟩
  show pL_law_23 c9 w9 FU (nw 103 1 1 σ8) b z (z + 98) (sz σ8) 0
  rw [zs8]
  have low : ∀ r, r < z + 98 → sK (nw 103 1 1 σ8) r = sK σ3 r ∧ sN (nw 103 1 1 σ8) r = sN σ3 r ∧ (∀ f, sF (nw 103 1 1 σ8) f r = sF σ3 f r) ∧ (∀ f, sI (nw 103 1 1 σ8) f r = sI σ3 f r) ∧ (∀ i, sA (nw 103 1 1 σ8) r i = sA σ3 r i) ∧ ∀ i, sQ (nw 103 1 1 σ8) r i = sQ σ3 r i := by
    intro r hr
    have e : r ≠ sz σ8 := by omega
    obtain ⟨g1, g2, g3, g4, g5, g6, g7⟩ := yS r hr
    exact ⟨(if_neg e).trans ((congrFun a1 r).trans g1), (if_neg e).trans ((congrFun a3 r).trans g2), fun f => (if_neg e).trans ((congrFun (congrFun a2 f) r).trans (g3 f)), fun f => (if_neg e).trans ((a9 f r (by omega)).trans (g4 f)), fun i => (if_neg e).trans ((congrFun (a10 r (by omega)) i).trans (g5 i)), fun i => (if_neg e).trans ((congrFun (congrFun a5 r) i).trans (g7 i))⟩
  have s0 : ∀ r, r < z → sK σ3 r = (if r = b ∨ r = kw ∨ r = tn then 150 else 0) := fun r hr => (hS r hr).1
  have kk : ∀ r, sK (nw 103 1 1 σ8) r = if r = z + 143 then 103 else sK σ8 r := fun r => by
    show (if r = sz σ8 then 103 else sK σ8 r) = _
    rw [zs8]
  have hM8 := hRI.1.1
  have big : ∀ r, z + 143 ≤ r → sK σ8 r = 0 := fun r hr => by
    rw [a1, yO r (by omega)]
    exact hout r (by omega)
  have hV : Vw z kw tn (nw 103 1 1 σ8) := by
    refine ⟨⟨hz0, by show sz σ8 + 1 = _; omega⟩, ⟨fun o ho => ?_, fun f o ho => ?_, fun f o ho => ?_, fun o i ho => ?_, fun o i ho => ?_⟩, fun r hr => ?_, ⟨?_, fun a ha => ?_⟩, ?_, ?_⟩
    · obtain ⟨g1, g2, _⟩ := low (z + o) (by omega)
      rw [g1, g2]
      exact hcells.1 o ho
    · rw [(low (z + o) (by omega)).2.2.1]
      exact hcells.2.1 f o ho
    · rw [(low (z + o) (by omega)).2.2.2.1]
      exact hcells.2.2.1 f o ho
    · rw [(low (z + o) (by omega)).2.2.2.2.1]
      exact hcells.2.2.2.1 o i ho
    · rw [(low (z + o) (by omega)).2.2.2.2.2]
      exact hcells.2.2.2.2 o i ho
    · rw [kk] at hr
      by_cases c : r = z + 143
      · rw [if_pos c] at hr; omega
      rw [if_neg c] at hr
      by_cases c1 : z + 143 ≤ r
      · rw [big r c1] at hr; omega
      by_cases c2 : z + 98 ≤ r
      · obtain ⟨j, rfl⟩ : ∃ j, r = z + 98 + j := ⟨r - (z + 98), by omega⟩
        have := hM8.kk j (by omega)
        omega
      by_cases c3 : z ≤ r
      · exact ⟨r - z, by omega, by omega⟩
      · exfalso
        rw [a1, (yS r (by omega)).1, s0 r (by omega)] at hr
        split at hr <;> omega
    · rw [(low 0 (by omega)).1, s0 0 (by omega), if_neg (by omega)]
    · rw [kk, if_neg (by omega)]
      exact big a (by omega)
    · obtain ⟨g1, g2, g3, g4, g5, _⟩ := low kw (by omega)
      obtain ⟨f1, f2, f3, f4, f5, _⟩ := hS kw (by omega)
      refine ⟨?_, by omega, ?_, ?_, fun i => ?_⟩
      · rw [(low 0 (by omega)).2.2.1, (hS 0 (by omega)).2.2.1]
        show (if 9001 = 9001 ∧ 0 = 0 then kw else if 9001 = 9002 ∧ 0 = 0 then tn else 0) = kw
        rw [if_pos ⟨rfl, rfl⟩]
      · rw [g1, s0 kw (by omega), if_pos (Or.inr (Or.inl rfl))]
      · rw [g2, f2]
        show (if kw = b then L else if kw = kw then 11 else if kw = tn then 10 else 0) = 11
        rw [if_neg (by omega), if_pos rfl]
      · rw [g5, f5]
        show (if kw = b then xs i else if kw = kw then kwf i else if kw = tn then tnf i else 0) = kwf i
        rw [if_neg (by omega), if_pos rfl]
    · obtain ⟨g1, g2, g3, g4, g5, _⟩ := low tn (by omega)
      obtain ⟨f1, f2, f3, f4, f5, _⟩ := hS tn (by omega)
      refine ⟨?_, by omega, ?_, ?_, fun i => ?_⟩
      · rw [(low 0 (by omega)).2.2.1, (hS 0 (by omega)).2.2.1]
        show (if 9002 = 9001 ∧ 0 = 0 then kw else if 9002 = 9002 ∧ 0 = 0 then tn else 0) = tn
        rw [if_neg (by omega), if_pos ⟨rfl, rfl⟩]
      · rw [g1, s0 tn (by omega), if_pos (Or.inr (Or.inr rfl))]
      · rw [g2, f2]
        show (if tn = b then L else if tn = kw then 11 else if tn = tn then 10 else 0) = 10
        rw [if_neg (by omega), if_neg (by omega), if_pos rfl]
      · rw [g5, f5]
        show (if tn = b then xs i else if tn = kw then kwf i else if tn = tn then tnf i else 0) = tnf i
        rw [if_neg (by omega), if_neg (by omega), if_pos rfl]
  refine hloop _ ⟨hV, ?_, ⟨fun r hr => ?_, ?_, ?_⟩, ⟨hb.2, ?_, ?_, fun i => ?_⟩, ?_, ?_⟩
  · refine hRI.st (hM8.of (fun j hj => ?_) (fun j hj => if_neg (by omega)) (fun f => if_neg (by omega))) (fun f => if_neg (by omega)) (fun j h1 h2 => funext fun i => if_neg (by omega))
    rw [kk, if_neg (by omega)]
  · exact vw_nl hV (fun o h1 h2 e => by
      obtain ⟨_, _, h3⟩ := vw_nats o h1 h2
      unfold mR at hr
      omega)
  · rw [kk, if_pos rfl]
  · show (if z + 143 = sz σ8 then 1 else sN σ8 (z + 143)) = 1
    rw [if_pos zs8.symm]
  · rw [(low b (by omega)).1, s0 b (by omega), if_pos (Or.inl rfl)]
  · rw [(low b (by omega)).2.1, (hS b (by omega)).2.1]
    exact if_pos rfl
  · rw [(low b (by omega)).2.2.2.2.1, (hS b (by omega)).2.2.2.2.1]
    exact if_pos rfl
  · show sc σ8 + 1 = 144
    have : sc (st0 z b kw tn L xs) = 0 := rfl
    omega
  · show sw σ8 + 1 = _
    have : sw (st0 z b kw tn L xs) = 0 := rfl
    omega
