/-! ===== calls of the one that was built: all values of a row ===== -/
def totQ (f : Nat) : List Qv → Qv → Qv
  | [], a => a
  | v :: vs, a => totQ f vs (if f = 0 then qmk (jnS a.1 v.1 (a.2.1 * v.2.2) (v.2.1 * a.2.2)) (jnN a.1 v.1 (a.2.1 * v.2.2) (v.2.1 * a.2.2)) (a.2.2 * v.2.2) else qmk (a.1 * v.1) (a.2.1 * v.2.1) (a.2.2 * v.2.2))
def Acq (k : Nat) (a : Qv) : Prop := (-1 ≤ a.1 ∧ a.1 ≤ 1) ∧ 0 < a.2.2 ∧ Nat.gcd a.2.1 a.2.2 = 1 ∧ a.2.1 ≤ (k + 1) * dig30 ^ k ∧ a.2.2 ≤ dig30 ^ k
theorem qmk_gcd {s : Int} {x y : Nat} (h : 0 < y) : 0 < (qmk s x y).2.2 ∧ Nat.gcd (qmk s x y).2.1 (qmk s x y).2.2 = 1 := by
  have hg : 0 < Nat.gcd x y := Nat.gcd_pos_of_pos_right _ h
  refine ⟨Nat.div_pos (Nat.gcd_le_right _ h) hg, ?_⟩
  show Nat.gcd (x / Nat.gcd x y) (y / Nat.gcd x y) = 1
  exact Nat.gcd_div (Nat.gcd_dvd_left x y) (Nat.gcd_dvd_right x y) |>.trans (Nat.div_self hg)
theorem jnN_b {s t : Int} {x y : Nat} : jnN s t x y ≤ x + y := by
  unfold jnN
  split
  · exact Nat.le_refl _
  · split <;> omega
theorem jnS_bd {s t : Int} {x y : Nat} (hs : -1 ≤ s ∧ s ≤ 1) (ht : -1 ≤ t ∧ t ≤ 1) : -1 ≤ jnS s t x y ∧ jnS s t x y ≤ 1 := by
  unfold jnS
  repeat' split
  all_goals omega
theorem Acq.sum {k : Nat} {a v : Qv} (h : Acq k a) (hv : qok v) : Acq (k + 1) (qmk (jnS a.1 v.1 (a.2.1 * v.2.2) (v.2.1 * a.2.2)) (jnN a.1 v.1 (a.2.1 * v.2.2) (v.2.1 * a.2.2)) (a.2.2 * v.2.2)) := by
  obtain ⟨h1, h2, h3, h4, h5⟩ := h
  have hsg := hv.sg
  have hv3 := hv.2.2.1
  have hn := hv.2.2.2.2.1
  have hd := hv.2.2.2.2.2
  have hj := jnS_bd (x := a.2.1 * v.2.2) (y := v.2.1 * a.2.2) h1 hsg
  have hp := Nat.mul_pos h2 hv3
  obtain ⟨g1, g2⟩ := qmk_gcd (s := jnS a.1 v.1 (a.2.1 * v.2.2) (v.2.1 * a.2.2)) (x := jnN a.1 v.1 (a.2.1 * v.2.2) (v.2.1 * a.2.2)) hp
  have hb := qmk_b (jnS a.1 v.1 (a.2.1 * v.2.2) (v.2.1 * a.2.2)) (jnN a.1 v.1 (a.2.1 * v.2.2) (v.2.1 * a.2.2)) (a.2.2 * v.2.2)
  have m1 : a.2.1 * v.2.2 ≤ (k + 1) * dig30 ^ k * dig30 := Nat.mul_le_mul h4 (Nat.le_of_lt hd)
  have m2 : v.2.1 * a.2.2 ≤ dig30 * dig30 ^ k := Nat.mul_le_mul (Nat.le_of_lt hn) h5
  have m3 : a.2.2 * v.2.2 ≤ dig30 ^ k * dig30 := Nat.mul_le_mul h5 (Nat.le_of_lt hd)
  have hjn := jnN_b (s := a.1) (t := v.1) (x := a.2.1 * v.2.2) (y := v.2.1 * a.2.2)
  refine ⟨?_, g1, g2, ?_, ?_⟩
  · show -1 ≤ (if jnN a.1 v.1 (a.2.1 * v.2.2) (v.2.1 * a.2.2) = 0 then 0 else jnS a.1 v.1 (a.2.1 * v.2.2) (v.2.1 * a.2.2)) ∧ (if jnN a.1 v.1 (a.2.1 * v.2.2) (v.2.1 * a.2.2) = 0 then 0 else jnS a.1 v.1 (a.2.1 * v.2.2) (v.2.1 * a.2.2)) ≤ 1
    split <;> omega
  · refine Nat.le_trans hb.1 (Nat.le_trans hjn ?_)
    rw [Nat.pow_succ]
    have e : (k + 1 + 1) * (dig30 ^ k * dig30) = (k + 1) * dig30 ^ k * dig30 + dig30 * dig30 ^ k := by
      rw [Nat.succ_mul (k + 1), ← Nat.mul_assoc, Nat.mul_comm dig30]
    rw [e]
    omega
  · rw [Nat.pow_succ]
    exact Nat.le_trans hb.2 m3
theorem Acq.prd {k : Nat} {a v : Qv} (h : Acq k a) (hv : qok v) : Acq (k + 1) (qmk (a.1 * v.1) (a.2.1 * v.2.1) (a.2.2 * v.2.2)) := by
  obtain ⟨h1, h2, h3, h4, h5⟩ := h
  have hsg := hv.1
  have hv3 := hv.2.2.1
  have hn := hv.2.2.2.2.1
  have hd := hv.2.2.2.2.2
  have hj : -1 ≤ a.1 * v.1 ∧ a.1 * v.1 ≤ 1 := by
    rcases hsg with q | q | q <;> rw [q] <;> omega
  have hp := Nat.mul_pos h2 hv3
  obtain ⟨g1, g2⟩ := qmk_gcd (s := a.1 * v.1) (x := a.2.1 * v.2.1) hp
  have hb := qmk_b (a.1 * v.1) (a.2.1 * v.2.1) (a.2.2 * v.2.2)
  have m1 : a.2.1 * v.2.1 ≤ (k + 1) * dig30 ^ k * dig30 := Nat.mul_le_mul h4 (Nat.le_of_lt hn)
  have m3 : a.2.2 * v.2.2 ≤ dig30 ^ k * dig30 := Nat.mul_le_mul h5 (Nat.le_of_lt hd)
  refine ⟨?_, g1, g2, ?_, ?_⟩
  · show -1 ≤ (if a.2.1 * v.2.1 = 0 then 0 else a.1 * v.1) ∧ (if a.2.1 * v.2.1 = 0 then 0 else a.1 * v.1) ≤ 1
    split <;> omega
  · refine Nat.le_trans hb.1 ?_
    rw [Nat.pow_succ]
    have e : (k + 1 + 1) * (dig30 ^ k * dig30) = (k + 1) * dig30 ^ k * dig30 + dig30 * dig30 ^ k := by
      rw [Nat.succ_mul (k + 1), ← Nat.mul_assoc, Nat.mul_comm dig30]
    rw [e]
    omega
  · rw [Nat.pow_succ]
    exact Nat.le_trans hb.2 m3
theorem tot_lit : 51 * dig30 ^ 50 < 1000000000 ^ 200 := by decide +kernel
theorem Acq.s {k : Nat} {a : Qv} (h : Acq k a) (hk : k ≤ 50) : sml a.2.1 200 ∧ sml a.2.2 200 := by
  have hp : dig30 ^ k ≤ dig30 ^ 50 := Nat.pow_le_pow_right (by unfold dig30; omega) hk
  have h1 : (k + 1) * dig30 ^ k ≤ 51 * dig30 ^ 50 := Nat.mul_le_mul (by omega) hp
  have hl := tot_lit
  have h4 := h.2.2.2.1
  have h5 := h.2.2.2.2
  unfold sml
  generalize 1000000000 ^ 200 = W at *
  generalize dig30 ^ 50 = V at *
  generalize (k + 1) * dig30 ^ k = U at *
  generalize dig30 ^ k = T at *
  omega
/-- a row's values, as the sums need them -/
def Rwv (σ : St) (x a : Nat) (vs : List Qv) : Prop := (x + 84 < a ∧ vs.length ≤ 50) ∧ (sK σ a = 104 ∧ sN σ a = vs.length) ∧ ∀ i q, vs[i]? = some q → (x + 84 < sQ σ a i ∨ sQ σ a i = x + 3) ∧ qok q ∧ FX σ (sQ σ a i) q.1 q.2.1 q.2.2
theorem Rwv.kW {σ σ' : St} {x a k c : Nat} {vs : List Qv} (h : Rwv σ x a vs) (hF : cW x (sUn x) k c σ σ') : Rwv σ' x a vs := by
  obtain ⟨h1, ⟨h2, h3⟩, h4⟩ := h
  have hz := hF.1.1.1.lt (a := a) (by omega)
  have sa := hF.sam (a := a) (by omega) (Or.inl (by omega)) (fun z => by unfold sUn at z; omega)
  refine ⟨h1, ⟨hF.k h2 (by omega), ((hF.2.1.2 _ hz).2.1).trans h3⟩, fun i q hi => ?_⟩
  obtain ⟨g1, g2, g3⟩ := h4 i q hi
  rw [sa.2.2.2.2]
  exact ⟨g1, g2, g3.kW hF ⟨fun z => by unfold sUn at z; omega, fun z => by unfold sUn at z; omega, fun z => by unfold sUn at z; omega⟩⟩
theorem cl_tot {x a f : Nat} {vs : List Qv} (hf : f ≤ 1) : ∀ (k n i A B : Nat) (acc : Qv) (σ : St), k < n → i + k = vs.length → (A = x + 50 ∧ B = x + 55 ∨ A = x + 55 ∧ B = x + 50) → HP (PX x) σ → XS σ x → Rwv σ x a vs → FX σ A acc.1 acc.2.1 acc.2.2 → Acq i acc →
    Hx (fX5_totalOf_43 n σ (x + 18) a (nI f) A B (nI i)) (fun σ' v => cW x (sUn x) 0 0 σ σ' ∧ (v = x + 50 ∨ v = x + 55) ∧ FX σ' v (totQ f (vs.drop i) acc).1 (totQ f (vs.drop i) acc).2.1 (totQ f (vs.drop i) acc).2.2 ∧ Acq vs.length (totQ f (vs.drop i) acc)) := by
  intro k
  induction k with
  | zero =>
    intro n i A B acc σ hn hik hAB hP hx hR hA hacc
    obtain ⟨n, rfl⟩ : ∃ j, n = j + 1 := ⟨n - 1, by omega⟩
    obtain ⟨⟨r1, r2⟩, ⟨r3, r4⟩, r5⟩ := id hR
    rw [n_fX5_totalOf_43, sm_aln r3 (by omega), r4]
    refine hx_bs (Hx.ce (sm_le (by omega) (by omega)) (fun _ => ?_) (fun c => absurd c (by omega)))
    have ei : i = vs.length := by omega
    subst ei
    rw [List.drop_length]
    exact Hx.ret ⟨cW.rf hP, by omega, hA, hacc⟩
  | succ k ih =>
    intro n i A B acc σ hn hik hAB hP hx hR hA hacc
    obtain ⟨n, rfl⟩ : ∃ j, n = j + 1 := ⟨n - 1, by omega⟩
    obtain ⟨⟨r1, r2⟩, ⟨r3, r4⟩, r5⟩ := id hR
    have hi : i < vs.length := by omega
    obtain ⟨v1, v2, v3⟩ := r5 i _ (List.getElem?_eq_getElem hi)
    have ed : vs.drop i = vs[i] :: vs.drop (i + 1) := List.drop_eq_getElem_cons hi
    have el : ldQ σ 4 a (nI i) = some (sQ σ a i) := by
      unfold ldQ
      rw [if_pos ⟨r3, sm_inb (by omega) (by omega)⟩, sm_clamp (by omega)]
    generalize hvv : vs[i] = v at *
    have hB60 : B = x + 50 ∨ B = x + 55 := by omega
    have hI1 : B + 1 ∈ PX x := by rcases hB60 with q | q <;> subst q <;> simp
    have hI3 : B + 3 ∈ PX x := by rcases hB60 with q | q <;> subst q <;> simp
    have fsB : FS σ B := by
      rcases hB60 with q | q <;> subst q
      · exact hx.fs 50 (by omega)
      · exact hx.fs 55 (by omega)
    have hs := hacc.s (by omega)
    have hv4 := v2.n4
    rw [n_fX5_totalOf_43, sm_aln r3 (by omega), r4]
    refine hx_bs (Hx.ce (sm_le (by omega) (by omega)) (fun c => absurd c (by omega)) (fun _ => ?_))
    have fin : ∀ (τ : St) (q : Qv), cW x (sUn x) 0 0 σ τ → FX τ B q.1 q.2.1 q.2.2 → Acq (i + 1) q → totQ f (vs.drop (i + 1)) q = totQ f (vs.drop i) acc → Hx (fX5_totalOf_80 (fX5_totalOf_43 n) τ (x + 18) a (nI f) A B (nI i)) (fun σ' v => cW x (sUn x) 0 0 σ σ' ∧ (v = x + 50 ∨ v = x + 55) ∧ FX σ' v (totQ f (vs.drop i) acc).1 (totQ f (vs.drop i) acc).2.1 (totQ f (vs.drop i) acc).2.2 ∧ Acq vs.length (totQ f (vs.drop i) acc)) := by
      intro τ q hG hXt hac e
      rw [n_fX5_totalOf_80]
      refine hx_nm ?_
      rw [sm_add]
      refine (ih n (i + 1) B A q τ (by omega) (by omega) (by omega) hG.hp (hx.kW hG) (hR.kW hG) hXt hac).mo (fun σ' w g => ?_)
      rw [e] at g
      exact ⟨hG.tr0 g.1 (fun _ _ h => h), g.2⟩
    refine Hx.ce (sm_eq (by omega) (by omega)) (fun c => ?_) (fun c => ?_)
    · rw [el]
      refine hx_bs ?_
      rw [hx.ck 18 10 (by decide)]
      refine hx_bs ?_
      refine Hx.bd (cr_add (lf := 0) (u := v.1) hP hx hA v3 fsB hI1 hI3 (by omega) (by omega) (by omega) (by omega) (by omega) hs.1 hs.2 (lt_bp hv4.1 (by omega)) (lt_bp hv4.2 (by omega)) hacc.1 v2.sg hacc.2.1 v2.2.2.1 hacc.2.2.1 v2.2.2.2.1 (by omega) rfl) (fun σ1 _ g => ?_)
      obtain ⟨hF1, q, hq, hX1⟩ := g
      refine fin σ1 q (hF1.mo (fun r _ hr => by simp only [sR] at hr; unfold sUn; omega) (Nat.le_refl _) (Nat.le_refl _)) hX1 (by rw [hq]; exact hacc.sum v2) ?_
      rw [ed, hq]
      show _ = totQ f (vs.drop (i + 1)) (if f = 0 then _ else _)
      rw [if_pos c]
    · rw [el]
      refine hx_bs ?_
      rw [hx.ck 18 10 (by decide)]
      refine hx_bs ?_
      refine Hx.bd (cr_multiply hP hx hA v3 fsB hI1 hI3 (by omega) (by omega) (by omega) (by omega) (by omega) hs.1 hs.2 (lt_bp hv4.1 (by omega)) (lt_bp hv4.2 (by omega)) hacc.2.1 v2.2.2.1 hacc.2.2.1 v2.2.2.2.1) (fun σ1 _ g => ?_)
      obtain ⟨hF1, q, hq, hX1⟩ := g
      refine fin σ1 q (hF1.mo (fun r _ hr => by simp only [sR] at hr; unfold sUn; omega) (Nat.le_refl _) (Nat.le_refl _)) hX1 (by rw [hq]; exact hacc.prd v2) ?_
      rw [ed, hq]
      show _ = totQ f (vs.drop (i + 1)) (if f = 0 then _ else _)
      rw [if_neg c]
