/-! ===== the class' calculate ===== -/
theorem Hx.ce {α : Type} {c c' : Prop} {d : Decidable c} {a b : Option (St × α)} {P : St → α → Prop} (e : c = c') (h1 : c' → Hx a P) (h2 : ¬ c' → Hx b P) : Hx (@ite _ c d a b) P := Hx.cs (fun h => h1 (e ▸ h)) (fun h => h2 (e ▸ h))
theorem cf_setSelf {x a n d : Nat} {s : Int} {σ : St} (hp : HP (PX x) σ) (hA : FX σ a s n d) (hrn : rm (PX x) σ (a + 1) n) (hrd : rm (PX x) σ (a + 3) d) (hn : sml (n) 1000) (hd : sml (d) 1000) : Hx (fX1_setTo σ a a) (fun σ' _ => cW x (s3 a (a + 1) (a + 3)) 0 0 σ σ' ∧ FX σ' a s n d) := by
  obtain ⟨fsA, hsA, hnA, hdA⟩ := hA
  have h8 : sK σ a ≠ 8 := by rw [fsA.1]; omega
  have h1 : sK σ a ≠ 100 := by rw [fsA.1]; omega
  have hF := cWi (f := fid 5 0) (v := iz s) hp h8 h1
  rw [n_fX1_setTo, fx_i fsA, hsA.2]
  refine hx_bs ?_
  rw [fx_p fsA]
  refine hx_bs ?_
  have hsA : Sg (wI σ (fid 5 0) a (iz s)) a s := SgI fsA.1
  have hp0 := hF.hp
  replace hrn := hrn.kW hF hnA.k8
  replace hrd := hrd.kW hF hdA.k8
  replace fsA := fsA.kW hF
  replace hnA := hnA.kW hF (by simp only [s1]; omega)
  replace hdA := hdA.kW hF (by simp only [s1]; omega)
  generalize wI σ (fid 5 0) a (iz s) = σ0 at *
  simp only [fx_n fsA, sm_bind, fx_kn fsA]
  refine Hx.bd (cw_setTo hp0 hnA hnA hrn hn) (fun σ1 _ h => ?_)
  obtain ⟨hF1, hn1⟩ := h
  replace fsA := fsA.kW hF1
  replace hrd := hrd.kW hF1 hdA.k8
  replace hdA := hdA.kW hF1 (by simp only [s1]; omega)
  replace hsA := hsA.kW hF1 (by simp only [s1]; omega)
  simp only [fx_d fsA, sm_bind, fx_kd fsA]
  refine Hx.bd (cw_setTo hF1.hp hdA hdA hrd hd) (fun σ2 _ h => ?_)
  obtain ⟨hF2, hd2⟩ := h
  refine Hx.ret ⟨?_, fsA.kW hF2, hsA.kW hF2 (by simp only [s1]; omega), hn1.kW hF2 (by simp only [s1]; omega), hd2⟩
  exact ((hF.mo (fun r _ hr => by simp only [s1, s3] at hr ⊢; omega) (Nat.le_refl _) (Nat.le_refl _)).tr0 hF1 (fun r _ hr => by simp only [s1, s3] at hr ⊢; omega)).tr0 hF2 (fun r _ hr => by simp only [s1, s3] at hr ⊢; omega)
theorem qmk_b (s : Int) (u v : Nat) : (qmk s u v).2.1 ≤ u ∧ (qmk s u v).2.2 ≤ v := ⟨Nat.div_le_self _ _, Nat.div_le_self _ _⟩
theorem qmk_1 (s : Int) (u : Nat) : qmk s u 1 = (if u = 0 then 0 else s, u, 1) := by
  unfold qmk
  rw [Nat.gcd_one_right, Nat.div_one, Nat.div_one]
/-- what the class writes in a step -/
def sC (x r : Nat) : Prop := (x + 19 ≤ r ∧ r ≤ x + 48) ∨ x + 80 ≤ r ∧ r ≤ x + 83
/-- what is given in a step -/
def Gs (σ : St) (a st : Nat) (p q : Qv) : Prop := if ca st p q = 0 then Gv σ a (wkq st p q) else ∃ (s : Int) (n d : Nat), FX σ a s n d ∧ dig30 ≤ n ∧ sml (n) 300 ∧ sml (d) 300
theorem Gv.q {σ : St} {a : Nat} {Q : Qv} (h : FX σ a Q.1 Q.2.1 Q.2.2) (hn : sml (Q.2.1) 300) (hd : sml (Q.2.2) 300) : Gv σ a Q := Gv.mk h rfl hn hd
theorem cr_calculate {x a b st : Nat} {p q : Qv} {σ : St} (hp : HP (PX x) σ) (hx : XS σ x) (hA : FX σ a p.1 p.2.1 p.2.2) (hB : FX σ b q.1 q.2.1 q.2.2) (hqp : qok p) (hqq : qok q) (hax : x + 84 < a) (hbx : x + 84 < b) (hst : 1 ≤ st ∧ st ≤ 20 ∧ st ≠ 9) (hca : ca st p q = 0 ∨ ca st p q = 7) :
    Hx (fX2_calculate σ (x + 75) (nI st) a b (x + 18)) (fun σ' _ => cW x (sC x) 0 0 σ σ' ∧ Gs σ' (x + 80) st p q) := by
  obtain ⟨s, n, d⟩ := p
  obtain ⟨t, n', d'⟩ := q
  simp only at hA hB
  have fsI := hx.fs 80 (by omega)
  have hI : x + 80 + 1 ∈ PX x := by simp
  have hI3 : x + 80 + 3 ∈ PX x := by simp
  have n4 : sml (n) 4 := Nat.lt_trans hqp.2.2.2.2.1 dig30_bp
  have d4 : sml (d) 4 := Nat.lt_trans hqp.2.2.2.2.2 dig30_bp
  have m4 : sml (n') 4 := Nat.lt_trans hqq.2.2.2.2.1 dig30_bp
  have e4 : sml (d') 4 := Nat.lt_trans hqq.2.2.2.2.2 dig30_bp
  have hd0 : 0 < d := hqp.2.2.1
  have he0 : 0 < d' := hqq.2.2.1
  have g1 : Nat.gcd n d = 1 := hqp.2.2.2.1
  have g2 : Nat.gcd n' d' = 1 := hqq.2.2.2.1
  have b1 := hqp.sg
  have b2 := hqq.sg
  have z1 : s = 0 ↔ n = 0 := hqp.2.1
  have z2 : t = 0 ↔ n' = 0 := hqq.2.1
  have L (u : Nat) (h : sml (u) 4) : sml (u) 200 := lt_bp h (by omega)
  have L3 (u : Nat) (h : sml (u) 4) : sml (u) 300 := lt_bp h (by omega)
  have L10 (u : Nat) (h : sml (u) 4) : sml (u) 1000 := lt_bp h (by omega)
  have hnd := bp_mul n4 e4
  have hmd := bp_mul m4 d4
  have hdd := bp_mul d4 e4
  have hnn := bp_mul n4 m4
  have up : ∀ σ', cW x (sR x (x + 80)) 0 0 σ σ' → cW x (sC x) 0 0 σ σ' := fun σ' h => h.mo (fun r _ hr => by simp only [sR, sC] at hr ⊢; omega) (Nat.le_refl _) (Nat.le_refl _)
  have i80 := xf_6_8 hx
  have k18 := xk_18 hx
  have e0 : ∀ k : Nat, k < 100 → (nI st = nI k) = (st = k) := fun k hk => sm_eq (by omega) (by omega)
  have rI : ∀ (τ : St) (u : Nat), rm (PX x) τ (x + 80 + 1) u := fun _ _ => Or.inl hI
  have rI3 : ∀ (τ : St) (u : Nat), rm (PX x) τ (x + 80 + 3) u := fun _ _ => Or.inl hI3
  have hnc : st ≠ 7 → ca st (s, n, d) (t, n', d') = 0 := by
    intro h
    rcases hca with h' | h'
    · exact h'
    · exfalso
      unfold ca at h'
      simp only [h, false_and, if_false] at h'
      split at h'
      · omega
      · split at h'
        · omega
        · split at h'
          · omega
          · split at h' <;> omega
  have hG : ∀ τ, st ≠ 7 → Gv τ (x + 80) (wkq st (s, n, d) (t, n', d')) → Gs τ (x + 80) st (s, n, d) (t, n', d') := by
    intro τ h hg
    unfold Gs
    rw [if_pos (hnc h)]
    exact hg
  -- kinds of the given fraction
  obtain ⟨w1, hW1⟩ := hp.2 _ hI
  obtain ⟨w3, hW3⟩ := hp.2 _ hI3
  rw [n_fX2_calculate]
  simp only [e0 _ (show 1 < 100 by omega), e0 _ (show 2 < 100 by omega), e0 _ (show 3 < 100 by omega), e0 _ (show 4 < 100 by omega), e0 _ (show 5 < 100 by omega), e0 _ (show 6 < 100 by omega), e0 _ (show 7 < 100 by omega), e0 _ (show 8 < 100 by omega), e0 _ (show 9 < 100 by omega), e0 _ (show 10 < 100 by omega), e0 _ (show 11 < 100 by omega), e0 _ (show 12 < 100 by omega), e0 _ (show 13 < 100 by omega), e0 _ (show 14 < 100 by omega), e0 _ (show 15 < 100 by omega), e0 _ (show 16 < 100 by omega), e0 _ (show 17 < 100 by omega), e0 _ (show 18 < 100 by omega)]
  have hadd : ∀ lf : Nat, lf ≤ 1 → st = lf + 1 → Hx (fX2_calculate_102 σ (x + 75) (x + 18) a b (nI lf)) (fun σ' _ => cW x (sC x) 0 0 σ σ' ∧ Gs σ' (x + 80) st (s, n, d) (t, n', d')) := by
    intro lf hlf hsl
    rw [n_fX2_calculate_102, i80]
    refine hx_bs ?_
    rw [k18]
    refine hx_bs ?_
    refine Hx.bd (cr_add (into := x + 80) (lf := lf) (u := if lf = 0 then t else -t) hp hx hA hB fsI hI hI3 (by omega) (by omega) (by omega) (by omega) (by omega) (L _ n4) (L _ d4) (L _ m4) (L _ e4) b1 b2 hd0 he0 g1 g2 hlf rfl) (fun σ1 _ h => ?_)
    obtain ⟨hF, q, hq, hX⟩ := h
    refine Hx.ret ⟨up _ hF, hG _ (by omega) ?_⟩
    have hw : wkq st (s, n, d) (t, n', d') = q := by
      rw [hq]
      unfold wkq
      rcases (show lf = 0 ∨ lf = 1 by omega) with rfl | rfl
      · rw [if_pos hsl, if_pos rfl]
      · rw [if_neg (by omega), if_pos hsl, if_neg (by omega)]
    rw [hw]
    have hb := qmk_b (jnS s (if lf = 0 then t else -t) (n * d') (n' * d)) (jnN s (if lf = 0 then t else -t) (n * d') (n' * d)) (d * d')
    rw [← hq] at hb
    exact Gv.q hX (lt_bp (Nat.lt_of_le_of_lt hb.1 (Nat.lt_of_le_of_lt (jnN_le _ _ _ _) (bp_add hnd hmd))) (by omega)) (lt_bp (Nat.lt_of_le_of_lt hb.2 hdd) (by omega))
  refine Hx.cs (fun c1 => ?_) (fun c1 => ?_)
  · rw [n_fX2_calculate_88]
    refine Hx.ce (e0 _ (by omega)) (fun c => by omega) (fun _ => hadd 0 (by omega) c1)
  refine Hx.cs (fun c2 => ?_) (fun c2 => ?_)
  · rw [n_fX2_calculate_88]
    refine Hx.ce (e0 _ (by omega)) (fun _ => hadd 1 (by omega) c2) (fun c => absurd c2 c)
  refine Hx.cs (fun c3 => ?_) (fun c3 => ?_)
  · rw [i80]
    refine hx_bs ?_
    rw [k18]
    refine hx_bs ?_
    refine Hx.bd (cr_multiply (into := x + 80) hp hx hA hB fsI hI hI3 (by omega) (by omega) (by omega) (by omega) (by omega) (L _ n4) (L _ d4) (L _ m4) (L _ e4) hd0 he0 g1 g2) (fun σ1 _ h => ?_)
    obtain ⟨hF, q, hq, hX⟩ := h
    refine Hx.ret ⟨up _ hF, hG _ (by omega) ?_⟩
    have hw : wkq st (s, n, d) (t, n', d') = q := by
      rw [hq]
      unfold wkq
      rw [if_neg c1, if_neg c2, if_pos c3]
    rw [hw]
    have hb := qmk_b (s * t) (n * n') (d * d')
    rw [← hq] at hb
    exact Gv.q hX (lt_bp (Nat.lt_of_le_of_lt hb.1 hnn) (by omega)) (lt_bp (Nat.lt_of_le_of_lt hb.2 hdd) (by omega))
  refine Hx.cs (fun c4 => ?_) (fun c4 => ?_)
  · have hca0 := hnc (by omega)
    have ht0 : t ≠ 0 := by
      intro e
      unfold ca at hca0
      rw [if_neg (by omega), if_neg (by omega), if_neg (by omega), if_pos ⟨Or.inl c4, e⟩] at hca0
      omega
    have hm0 : 0 < n' := by omega
    rw [k18]
    refine hx_bs ?_
    refine Hx.bd (cr_inverse hp hx hB (by omega) (by omega) (L10 _ m4) (L10 _ e4)) (fun σ1 v h => ?_)
    obtain ⟨hF1, rfl, hT⟩ := h
    have hx1 := hx.kW hF1
    rw [xf_6_8 hx1]
    refine hx_bs ?_
    rw [xk_18 hx1]
    refine hx_bs ?_
    refine Hx.bd (cr_multiply (into := x + 80) hF1.hp hx1 (hA.kW hF1 (by simp only [s3]; omega)) hT (fsI.kW hF1) hI hI3 (by omega) (by omega) (by omega) (by omega) (by omega) (L _ n4) (L _ d4) (L _ e4) (L _ m4) hd0 hm0 g1 (by rw [Nat.gcd_comm]; exact g2)) (fun σ2 _ h => ?_)
    obtain ⟨hF, q, hq, hX⟩ := h
    refine Hx.ret ⟨(hF1.mo (S' := sC x) (fun r _ hr => by simp only [s3, sC] at hr ⊢; omega) (Nat.le_refl _) (Nat.le_refl _)).tr0 hF (fun r _ hr => by simp only [sR, sC] at hr ⊢; omega), hG _ (by omega) ?_⟩
    have hw : wkq st (s, n, d) (t, n', d') = q := by
      rw [hq]
      unfold wkq
      rw [if_neg c1, if_neg c2, if_neg c3, if_pos c4]
    rw [hw]
    have hb := qmk_b (s * t) (n * d') (d * n')
    rw [← hq] at hb
    exact Gv.q hX (lt_bp (Nat.lt_of_le_of_lt hb.1 hnd) (by omega)) (lt_bp (Nat.lt_of_le_of_lt hb.2 (by rw [Nat.mul_comm]; exact hmd)) (by omega))
  refine Hx.cs (fun c5 => ?_) (fun c5 => ?_)
  · have hca0 := hnc (by omega)
    have ht0 : t ≠ 0 := by
      intro e
      unfold ca at hca0
      rw [if_neg (by omega), if_neg (by omega), if_neg (by omega), if_pos ⟨Or.inr c5, e⟩] at hca0
      omega
    have hm0 : 0 < n' := by omega
    rw [i80]
    refine hx_bs ?_
    rw [k18]
    refine hx_bs ?_
    refine Hx.bd (cr_remain (into := x + 80) hp hx hA hB fsI hI hI3 (by omega) (by omega) (by omega) (by omega) (by omega) (L _ n4) (L _ d4) (L _ m4) (L _ e4) b1 b2 hm0 hd0 z1.mp ht0 _ _ rfl rfl) (fun σ1 _ h => ?_)
    obtain ⟨hF1, hX1⟩ := h
    have hx1 := hx.kW hF1
    rw [xf_6_8 hx1]
    refine hx_bs ?_
    rw [xk_18 hx1]
    refine hx_bs ?_
    have hNb : sml (if n * d' % (n' * d) ≠ 0 ∧ s ≠ t then n' * d - n * d' % (n' * d) else n * d' % (n' * d)) (4 + 4) := by
      split
      · exact Nat.lt_of_le_of_lt (Nat.sub_le _ _) hmd
      · exact Nat.lt_trans (Nat.mod_lt _ (Nat.mul_pos hm0 hd0)) hmd
    refine Hx.bd (cr_reduce hF1.hp hx1 hX1 (by omega) (lt_bp hNb (by omega)) (lt_bp hdd (by omega)) (rI _ _) (rI3 _ _)) (fun σ2 _ h => ?_)
    obtain ⟨hF2, hX2⟩ := h
    refine Hx.ret ⟨(up _ hF1).tr0 hF2 (fun r _ hr => by simp only [sR, sC] at hr ⊢; omega), hG _ (by omega) ?_⟩
    refine Gv.mk hX2 ?_ (lt_bp (bp_dvd _ hNb) (by omega)) (lt_bp (bp_dvd _ hdd) (by omega))
    unfold wkq
    rw [if_neg c1, if_neg c2, if_neg c3, if_neg c4, if_pos c5]
    rfl
  refine Hx.cs (fun c6 => ?_) (fun c6 => ?_)
  · have hca0 := hnc (by omega)
    unfold ca at hca0
    have hq1 : d' = 1 ∧ n' ≤ 100 := by
      apply Classical.byContradiction
      intro q
      rw [if_pos ⟨c6, q⟩] at hca0
      omega
    have h5 : ¬ (s = 0 ∧ t < 0) := by
      intro q
      rw [if_neg (by simp only; omega), if_neg (by omega), if_neg (by omega), if_neg (by omega), if_pos ⟨c6, q.1, q.2⟩] at hca0
      omega
    have easI : asI (t, n', d') = t * (n' : Int) := asI_sm hq1.2
    have he : -100 ≤ t * (n' : Int) ∧ t * (n' : Int) ≤ 100 := by
      rcases (show t = -1 ∨ t = 0 ∨ t = 1 by omega) with rfl | rfl | rfl <;> omega
    obtain ⟨fsB, sgB, hM, hE⟩ := id hB
    rw [fx_i fsB, sgB.2]
    refine hx_bs ?_
    rw [fx_n fsB]
    refine hx_bs ?_
    rw [fx_kn fsB]
    refine hx_bs ?_
    rw [cn_limb hM (by omega), bq_0, Nat.mod_eq_of_lt (by omega)]
    refine hx_cs ?_
    rw [i80]
    refine hx_bs ?_
    rw [k18]
    refine hx_bs ?_
    rw [sm_iz, iz_mul]
    refine Hx.bd (cr_power (into := x + 80) hp hx hA fsI hI hI3 (by omega) (by omega) (by omega) hqp he ?_) (fun σ1 _ h => ?_)
    · rintro ⟨q1, q2⟩
      refine h5 ⟨q1, ?_⟩
      rcases (show t = -1 ∨ t = 0 ∨ t = 1 by omega) with rfl | rfl | rfl <;> omega
    obtain ⟨hF, hX⟩ := h
    refine Hx.ret ⟨up _ hF, hG _ (by omega) ?_⟩
    have hw : wkq st (s, n, d) (t, n', d') = qmk (if s < 0 ∧ (t * (n' : Int)).natAbs % 2 = 1 then -1 else 1) (pwb (s, n, d) (t * (n' : Int)) ^ (t * (n' : Int)).natAbs) (pwc (s, n, d) (t * (n' : Int)) ^ (t * (n' : Int)).natAbs) := by
      unfold wkq
      rw [if_neg c1, if_neg c2, if_neg c3, if_neg c4, if_neg c5, if_pos c6, easI]
    rw [hw]
    exact hX
  refine Hx.cs (fun c7 => ?_) (fun c7 => ?_)
  · have hp1 : d = 1 ∧ 0 ≤ s := by
      apply Classical.byContradiction
      intro q
      unfold ca at hca
      rw [if_neg (by omega), if_pos ⟨c7, q⟩] at hca
      omega
    obtain ⟨rfl, hs0⟩ := hp1
    rw [i80]
    refine hx_bs ?_
    rw [k18]
    refine hx_bs ?_
    refine Hx.bd (cr_factorial (into := x + 80) hp hx hA fsI hI hI3 (by omega) (by omega) (by omega) hqp.2.2.2.2.1) (fun σ1 _ h => ?_)
    obtain ⟨hF, w, hX, hwb, h1, h2⟩ := h
    refine Hx.ret ⟨up _ hF, ?_⟩
    have eca : ca st (s, n, 1) (t, n', d') = if 28 < n then 7 else 0 := by
      unfold ca
      rw [if_neg (by omega), if_neg (fun q => q.2 ⟨rfl, hs0⟩), if_neg (by omega), if_neg (by omega), if_neg (by omega)]
      simp only [c7, true_and]
    unfold Gs
    rw [eca]
    by_cases c : 28 < n
    · rw [if_pos c, if_neg (by omega)]
      exact ⟨_, _, _, hX, h2 c, lt_bp hwb (by omega), lt_bp (sml_lit (show 1 < 1000000000 by omega)) (by omega)⟩
    · rw [if_neg c, if_pos rfl]
      refine Gv.mk hX ?_ (lt_bp hwb (by omega)) (lt_bp (sml_lit (show 1 < 1000000000 by omega)) (by omega))
      unfold wkq
      rw [if_neg c1, if_neg c2, if_neg c3, if_neg c4, if_neg c5, if_neg c6, if_pos c7, qmk_1, h1 (by omega), if_neg]
      have := fct_mono (Nat.zero_le n)
      have e : fct 0 = 1 := rfl
      show ¬ fct n = 0
      omega
  -- the amount, or with the other sign
  have h207 : (st = 8 ∨ st = 15) → Hx (fX2_calculate_207 σ (x + 75) (nI st) a) (fun σ' _ => cW x (sC x) 0 0 σ σ' ∧ Gs σ' (x + 80) st (s, n, d) (t, n', d')) := by
    intro h815
    rw [n_fX2_calculate_207, i80]
    refine hx_bs ?_
    rw [fx_k fsI]
    refine hx_bs ?_
    refine Hx.bd (cf_setTo hp ⟨fsI, ⟨fsI.1, (iz_self _)⟩, hW1, hW3⟩ hA (by omega) (rI _ _) (rI3 _ _) (L10 _ n4) (L10 _ d4)) (fun σ1 _ h => ?_)
    obtain ⟨hF1, hX1⟩ := h
    have hx1 := hx.kW hF1
    have hA1 := hA.kW hF1 (by simp only [s3]; omega)
    rw [xf_6_8 hx1]
    refine hx_bs ?_
    have hset : ∀ v : Int, (v, n, d) = wkq st (s, n, d) (t, n', d') → Hx (fX2_calculate_240 σ1 (x + 80) (iz v)) (fun σ' _ => cW x (sC x) 0 0 σ σ' ∧ Gs σ' (x + 80) st (s, n, d) (t, n', d')) := by
      intro v hv
      have k6 : sK σ1 (x + 80) = 6 := hX1.1.1
      have hF2 := cWi (f := fid 5 0) (v := iz v) hF1.hp (show sK σ1 (x + 80) ≠ 8 by omega) (show sK σ1 (x + 80) ≠ 100 by omega)
      rw [n_fX2_calculate_240, fx_p hX1.1]
      refine hx_bs (Hx.ret ⟨?_, hG _ (by omega) ?_⟩)
      · exact (hF1.mo (S' := sC x) (fun r _ hr => by simp only [s3, sC] at hr ⊢; omega) (Nat.le_refl _) (Nat.le_refl _)).tr0 hF2 (fun r _ hr => by simp only [s1, sC] at hr ⊢; omega)
      · exact Gv.mk ⟨hX1.1.kW hF2, SgI k6, hX1.2.2.1.kW hF2 (by simp only [s1]; omega), hX1.2.2.2.kW hF2 (by simp only [s1]; omega)⟩ hv (L3 _ n4) (L3 _ d4)
    refine Hx.ce (e0 _ (by omega)) (fun c => ?_) (fun c => ?_)
    · rw [fx_i hA1.1, hA1.2.1.2]
      refine hx_bs ?_
      have ev : (if nI 0 ≤ iz s then iz s else nI 0 - iz s) = iz (if n = 0 then 0 else 1) := by
        have hle : (nI 0 ≤ iz s) = (0 ≤ s) := by rw [show nI 0 = iz (0 : Int) from rfl, iz_le (by omega) (by omega) (by omega) (by omega)]
        rcases (show s = -1 ∨ s = 0 ∨ s = 1 by omega) with h | h | h
        · have hn : ¬ n = 0 := by omega
          rw [if_neg (by rw [hle]; omega), if_neg hn, h]; rfl
        · have hn : n = 0 := by omega
          rw [if_pos (by rw [hle]; omega), if_pos hn, h]
        · have hn : ¬ n = 0 := by omega
          rw [if_pos (by rw [hle]; omega), if_neg hn, h]
      rw [ev]
      refine hset _ ?_
      unfold wkq
      simp only [c]
      unfold qmk
      rw [g1, Nat.div_one, Nat.div_one]
      rfl
    · rw [fx_i hA1.1, hA1.2.1.2]
      refine hx_bs ?_
      rw [iz_neg]
      refine hset _ ?_
      have c8 : st = 8 := by omega
      unfold wkq
      simp only [c8]
      rfl
  refine Hx.cs (fun c8 => h207 (Or.inl c8)) (fun c8 => ?_)
  refine Hx.cs (fun c9 => by omega) (fun c9 => ?_)
  refine Hx.cs (fun c10 => ?_) (fun c10 => ?_)
  · rw [i80]
    refine hx_bs ?_
    rw [k18]
    refine hx_bs ?_
    refine Hx.bd (cr_commonDivisor (into := x + 80) hp hx hA hB fsI hI hI3 (by omega) (by omega) (by omega) (by omega) (by omega) (L _ n4) (L _ m4)) (fun σ1 _ h => ?_)
    obtain ⟨hF, hX⟩ := h
    refine Hx.ret ⟨up _ hF, hG _ (by omega) (Gv.mk hX ?_ (lt_bp (bp_gcd n4 m4) (by omega)) (lt_bp (sml_lit (show 1 < 1000000000 by omega)) (by omega)))⟩
    unfold wkq
    rw [if_neg c1, if_neg c2, if_neg c3, if_neg c4, if_neg c5, if_neg c6, if_neg c7, if_neg c8, if_pos c10, qmk_1]
  refine Hx.cs (fun c11 => ?_) (fun c11 => ?_)
  · rw [i80]
    refine hx_bs ?_
    rw [k18]
    refine hx_bs ?_
    refine Hx.bd (cr_commonMultiple (into := x + 80) hp hx hA hB fsI hI hI3 (by omega) (by omega) (by omega) (by omega) (by omega) (L _ n4) (L _ m4)) (fun σ1 _ h => ?_)
    obtain ⟨hF, hX⟩ := h
    refine Hx.ret ⟨up _ hF, hG _ (by omega) (Gv.mk hX ?_ (lt_bp (bp_mul (bp_dvd _ n4) m4) (by omega)) (lt_bp (sml_lit (show 1 < 1000000000 by omega)) (by omega)))⟩
    unfold wkq
    rw [if_neg c1, if_neg c2, if_neg c3, if_neg c4, if_neg c5, if_neg c6, if_neg c7, if_neg c8, if_neg c10, if_pos c11, qmk_1]
    have ez : (if n = 0 ∨ n' = 0 then 0 else lcq n n') = lcq n n' := by
      split
      · rename_i h
        unfold lcq
        rcases h with h | h
        · rw [h, Nat.zero_div, Nat.zero_mul]
        · rw [h, Nat.mul_zero]
      · rfl
    simp only [ez]
  have h274 : (st = 12 ∨ st = 13 ∨ st = 14) → Hx (fX2_calculate_274 σ (x + 75) (nI st) a (x + 18)) (fun σ' _ => cW x (sC x) 0 0 σ σ' ∧ Gs σ' (x + 80) st (s, n, d) (t, n', d')) := by
    intro hs3
    rw [n_fX2_calculate_274, i80]
    refine hx_bs ?_
    rw [k18]
    refine hx_bs ?_
    refine Hx.bd (cr_round (into := x + 80) hp hx hA fsI hI hI3 (by omega) (by omega) (by omega) hs3 hqp) (fun σ1 _ h => ?_)
    obtain ⟨hF, hX, hb⟩ := h
    refine Hx.ret ⟨up _ hF, hG _ (by omega) (Gv.mk hX ?_ (lt_bp hb (by omega)) (lt_bp (sml_lit (show 1 < 1000000000 by omega)) (by omega)))⟩
    unfold wkq
    rw [if_neg c1, if_neg c2, if_neg c3, if_neg c4, if_neg c5, if_neg c6, if_neg c7, if_neg c8, if_neg c10, if_neg c11, if_pos hs3, qmk_1]
  refine Hx.cs (fun c12 => h274 (Or.inl c12)) (fun c12 => ?_)
  refine Hx.cs (fun c13 => h274 (Or.inr (Or.inl c13))) (fun c13 => ?_)
  refine Hx.cs (fun c14 => h274 (Or.inr (Or.inr c14))) (fun c14 => ?_)
  refine Hx.cs (fun c15 => h207 (Or.inr c15)) (fun c15 => ?_)
  refine Hx.cs (fun c16 => ?_) (fun c16 => ?_)
  · rw [i80]
    refine hx_bs ?_
    rw [k18]
    refine hx_bs ?_
    refine Hx.bd (cr_mediate (into := x + 80) hp hx hA hB fsI hI hI3 (by omega) (by omega) (by omega) (by omega) (by omega) (L _ n4) (L _ d4) (L _ m4) (L _ e4) b1 b2) (fun σ1 _ h => ?_)
    obtain ⟨hF1, hX1⟩ := h
    have hx1 := hx.kW hF1
    rw [xf_6_8 hx1]
    refine hx_bs ?_
    rw [xk_18 hx1]
    refine hx_bs ?_
    have hNb : sml (jnN s t n n') (4 + 1) := Nat.lt_of_le_of_lt (jnN_le _ _ _ _) (bp_add n4 m4)
    have hDb := bp_add d4 e4
    refine Hx.bd (cr_reduce hF1.hp hx1 hX1 (by omega) (lt_bp hNb (by omega)) (lt_bp hDb (by omega)) (rI _ _) (rI3 _ _)) (fun σ2 _ h => ?_)
    obtain ⟨hF2, hX2⟩ := h
    refine Hx.ret ⟨(up _ hF1).tr0 hF2 (fun r _ hr => by simp only [sR, sC] at hr ⊢; omega), hG _ (by omega) ?_⟩
    refine Gv.mk hX2 ?_ (lt_bp (bp_dvd _ hNb) (by omega)) (lt_bp (bp_dvd _ hDb) (by omega))
    have c124 : ¬ (st = 12 ∨ st = 13 ∨ st = 14) := by omega
    unfold wkq
    rw [if_neg c1, if_neg c2, if_neg c3, if_neg c4, if_neg c5, if_neg c6, if_neg c7, if_neg c8, if_neg c10, if_neg c11, if_neg c124, if_neg c15, if_pos c16]
    rfl
  have h311 : (st = 17 ∨ st = 18) → Hx (fX2_calculate_311 σ (x + 75) (nI st) a) (fun σ' _ => cW x (sC x) 0 0 σ σ' ∧ Gs σ' (x + 80) st (s, n, d) (t, n', d')) := by
    intro h78
    obtain ⟨fsA, sgA, hN, hD⟩ := id hA
    have hset : ∀ (v : Int) (u y : Nat), Nt σ u y → x + 84 < u → sml (y) 4 → (if y = 0 then 0 else v, y, 1) = wkq st (s, n, d) (t, n', d') → Hx (fX2_calculate_346 σ (x + 80) u (iz v)) (fun σ' _ => cW x (sC x) 0 0 σ σ' ∧ Gs σ' (x + 80) st (s, n, d) (t, n', d')) := by
      intro v u y hu hux hy hv
      rw [n_fX2_calculate_346, fx_k fsI]
      refine hx_bs ?_
      refine Hx.bd (cf_setWhole hp fsI hW1 hW3 hu (by omega) (rI _ _) (L10 _ hy)) (fun σ1 _ h => ?_)
      obtain ⟨hF1, hX1⟩ := h
      exact Hx.ret ⟨hF1.mo (fun r _ hr => by simp only [s3, sC] at hr ⊢; omega) (Nat.le_refl _) (Nat.le_refl _), hG _ (by omega) (Gv.mk hX1 hv (L3 _ hy) (lt_bp (sml_lit (show 1 < 1000000000 by omega)) (by omega)))⟩
    rw [n_fX2_calculate_311, i80]
    refine hx_bs (Hx.ce (e0 _ (by omega)) (fun c => ?_) (fun c => ?_))
    · rw [fx_n fsA]
      refine hx_bs ?_
      rw [n_fX2_calculate_332]
      refine Hx.ce (e0 _ (by omega)) (fun _ => ?_) (fun q => absurd c q)
      rw [fx_i fsA, sgA.2]
      refine hx_bs (hset s _ n hN (by omega) n4 ?_)
      unfold wkq
      simp only [c]
      rw [← qmk_1]
      rfl
    · rw [fx_d fsA]
      refine hx_bs ?_
      rw [n_fX2_calculate_332]
      refine Hx.ce (e0 _ (by omega)) (fun q => absurd q c) (fun _ => ?_)
      refine hset 1 _ d hD (by omega) d4 ?_
      have c18 : st = 18 := by omega
      unfold wkq
      simp only [c18]
      rw [← qmk_1]
      rfl
  refine Hx.cs (fun c17 => h311 (Or.inl c17)) (fun c17 => ?_)
  refine Hx.cs (fun c18 => h311 (Or.inr c18)) (fun c18 => ?_)
  rw [n_fX2_calculate_352, i80]
  refine hx_bs ?_
  rw [k18]
  refine hx_bs ?_
  refine Hx.bd (cr_order hp hx hA hB (by omega) (by omega) (L _ n4) (L _ d4) (L _ m4) (L _ e4) b1 b2) (fun σ1 v h => ?_)
  obtain ⟨hF1, rfl⟩ := h
  have hcb : -1 ≤ cmpq (s, n, d) (t, n', d') ∧ cmpq (s, n, d) (t, n', d') ≤ 1 := by
    unfold cmpq
    simp only
    have := cmp3_b (n * d') (n' * d)
    split
    · rcases (show s = -1 ∨ s = 0 ∨ s = 1 by omega) with rfl | rfl | rfl <;> omega
    · split <;> omega
  have hA1 := hA.kW hF1 (by simp only [s2]; omega)
  have hB1 := hB.kW hF1 (by simp only [s2]; omega)
  have fsI1 := fsI.kW hF1
  have hW11 := hW1.kW hF1 (by simp only [s2]; omega)
  have hW31 := hW3.kW hF1 (by simp only [s2]; omega)
  have hle : (nI 0 ≤ iz (cmpq (s, n, d) (t, n', d'))) = ¬ (cmpq (s, n, d) (t, n', d') < 0) := by
    rw [show nI 0 = iz (0 : Int) from rfl, iz_le (by omega) (by omega) (by omega) (by omega)]
    exact propext (by omega)
  have h390 : ∀ (u : Nat) (Q : Qv), (u = a ∨ u = b) → FX σ1 u Q.1 Q.2.1 Q.2.2 → sml (Q.2.1) 4 → sml (Q.2.2) 4 → Q = wkq st (s, n, d) (t, n', d') → Hx (fX2_calculate_390 σ1 (x + 80) u) (fun σ' _ => cW x (sC x) 0 0 σ σ' ∧ Gs σ' (x + 80) st (s, n, d) (t, n', d')) := by
    intro u Q hu hX hQn hQd hQ
    rw [n_fX2_calculate_390, fx_k fsI1]
    refine hx_bs ?_
    refine Hx.bd (cf_setTo hF1.hp ⟨fsI1, ⟨fsI1.1, (iz_self _)⟩, hW11, hW31⟩ hX (by omega) (rI _ _) (rI3 _ _) (L10 _ hQn) (L10 _ hQd)) (fun σ2 _ h => ?_)
    obtain ⟨hF2, hX2⟩ := h
    refine Hx.ret ⟨(hF1.mo (S' := sC x) (fun r _ hr => by simp only [s2, sC] at hr ⊢; omega) (Nat.le_refl _) (Nat.le_refl _)).tr0 hF2 (fun r _ hr => by simp only [s3, sC] at hr ⊢; omega), hG _ (by omega) (Gv.mk hX2 hQ (L3 _ hQn) (L3 _ hQd))⟩
  have hpick : ∀ b9 : Nat, b9 ≤ 1 → (b9 = 1 ↔ cmpq (s, n, d) (t, n', d') < 0) → Hx (fX2_calculate_371 σ1 (nI st) a b (x + 80) (nI b9)) (fun σ' _ => cW x (sC x) 0 0 σ σ' ∧ Gs σ' (x + 80) st (s, n, d) (t, n', d')) := by
    intro b9 hb9 hbc
    have hA9 : (cmpq (s, n, d) (t, n', d') < 0 ↔ st = 19) → (s, n, d) = wkq st (s, n, d) (t, n', d') := by
      intro h
      unfold wkq
      rw [if_neg c1, if_neg c2, if_neg c3, if_neg c4, if_neg c5, if_neg c6, if_neg c7, if_neg c8, if_neg c10, if_neg c11, if_neg (by omega), if_neg c15, if_neg c16, if_neg c17, if_neg c18, if_pos (propext h)]
    have hB9 : ¬ (cmpq (s, n, d) (t, n', d') < 0 ↔ st = 19) → (t, n', d') = wkq st (s, n, d) (t, n', d') := by
      intro h
      unfold wkq
      rw [if_neg c1, if_neg c2, if_neg c3, if_neg c4, if_neg c5, if_neg c6, if_neg c7, if_neg c8, if_neg c10, if_neg c11, if_neg (by omega), if_neg c15, if_neg c16, if_neg c17, if_neg c18, if_neg (fun e => h (by rw [e]))]
    rw [n_fX2_calculate_371]
    refine Hx.ce (e0 _ (by omega)) (fun c19 => ?_) (fun c19 => ?_)
    · rw [n_fX2_calculate_382]
      refine Hx.cs (fun c => ?_) (fun c => ?_)
      · rw [sm_eq (by omega) (by omega)] at c
        exact h390 a (s, n, d) (Or.inl rfl) hA1 n4 d4 (hA9 ⟨fun _ => c19, fun _ => hbc.mp c⟩)
      · rw [sm_eq (by omega) (by omega)] at c
        exact h390 b (t, n', d') (Or.inr rfl) hB1 m4 e4 (hB9 (fun q => c (hbc.mpr (q.mpr c19))))
    · rw [n_fX2_calculate_382]
      refine Hx.cs (fun c => ?_) (fun c => ?_)
      · rw [sm_eq (by omega) (by omega)] at c
        exact h390 a (s, n, d) (Or.inl rfl) hA1 n4 d4 (hA9 ⟨fun q => absurd (hbc.mpr q) (by omega), fun q => absurd q c19⟩)
      · rw [sm_eq (by omega) (by omega)] at c
        exact h390 b (t, n', d') (Or.inr rfl) hB1 m4 e4 (hB9 (fun q => c19 (q.mp (hbc.mp (by omega)))))
  refine Hx.ce hle (fun c => ?_) (fun c => ?_)
  · exact hpick 0 (by omega) ⟨fun q => by omega, fun q => absurd q c⟩
  · exact hpick 1 (by omega) ⟨fun _ => Classical.not_not.mp c, fun _ => rfl⟩
