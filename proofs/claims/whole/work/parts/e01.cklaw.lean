/-! ===== calls of the one that was built: errors: pairs of slots ===== -/
def sLw (x r : Nat) : Prop := x + 19 ≤ r ∧ r ≤ x + 64
theorem cx_isLawful {x a b : Nat} {p q : Qv} {σ : St} (hp : HP (PX x) σ) (hx : XS σ x) (hA : FX σ a p.1 p.2.1 p.2.2) (hB : FX σ b q.1 q.2.1 q.2.2) (hqp : qok p) (hqq : qok q) (ha : x + 84 < a ∨ a = x + 3) (hb : x + 84 < b ∨ b = x + 3) : Hx (fX5_isLawful σ (x + 18) a b) (fun σ' v => v = nI 1 ∧ cW x (sLw x) 0 0 σ σ') := by
  have s4 : ∀ {y : Nat}, y < dig30 → sml y 4 := fun h => Nat.lt_trans h dig30_bp
  have hs : -1 ≤ p.1 ∧ p.1 ≤ 1 := by rcases hqp.1 with z | z | z <;> rw [z] <;> decide
  have ht : -1 ≤ q.1 ∧ q.1 ≤ 1 := by rcases hqq.1 with z | z | z <;> rw [z] <;> decide
  have n1 := s4 hqp.2.2.2.2.1
  have d1 := s4 hqp.2.2.2.2.2
  have n2 := s4 hqq.2.2.2.2.1
  have d2 := s4 hqq.2.2.2.2.2
  have offA : ∀ {c : Nat}, (c = a ∨ c = b) → ∀ {i : Nat}, (i = 50 ∨ i = 55) → ¬ sR x (x + i) c ∧ ¬ sR x (x + i) (c + 1) ∧ ¬ sR x (x + i) (c + 3) := by
    intro c hc i hi
    simp only [sR]
    rcases hc with rfl | rfl <;> rcases hi with rfl | rfl <;> omega
  rw [n_fX5_isLawful, show gF σ 9 14 (x + 18) = some (x + 50) from hx.gf 9 14 18 50 (by decide) (by decide)]
  refine hx_bs ?_
  rw [hx.ck 18 10 (by decide)]
  refine hx_bs ?_
  refine Hx.bd (cr_add (into := x + 50) (lf := 0) (u := q.1) hp hx hA hB (hx.fs 50 (by omega)) (show x + 51 ∈ PX x by simp) (show x + 53 ∈ PX x by simp) (by omega) (by omega) (by omega) (by omega) (by omega) (sml_m4 n1) (sml_m4 d1) (sml_m4 n2) (sml_m4 d2) hs ht hqp.2.2.1 hqq.2.2.1 hqp.2.2.2.1 hqq.2.2.2.1 (by omega) rfl) (fun σ1 _ g => ?_)
  obtain ⟨hF1, q1, e1, hX1⟩ := g
  obtain ⟨l1, _⟩ := add_back hqp hqq e1 rfl
  have hx1 := hx.kW hF1
  have hA1 := hA.kW hF1 (offA (Or.inl rfl) (Or.inl rfl))
  have hB1 := hB.kW hF1 (offA (Or.inr rfl) (Or.inl rfl))
  have hs1 : -1 ≤ q1.1 ∧ q1.1 ≤ 1 := by rcases l1.1 with z | z | z <;> rw [z] <;> decide
  have m1 : sml q1.2.1 200 := by
    rw [e1]
    refine sml_le (qmk_b _ _ _).1 (sml_le (jnN_le _ _ _ _) ?_)
    exact lt_bp (bp_add (bp_mul n1 d2) (bp_mul n2 d1)) (by omega)
  have m2 : sml q1.2.2 200 := by
    rw [e1]
    exact sml_le (qmk_b _ _ _).2 (lt_bp (bp_mul d1 d2) (by omega))
  rw [show gF σ1 9 14 (x + 18) = some (x + 50) from hx1.gf 9 14 18 50 (by decide) (by decide)]
  refine hx_bs ?_
  rw [show gF σ1 9 15 (x + 18) = some (x + 55) from hx1.gf 9 15 18 55 (by decide) (by decide)]
  refine hx_bs ?_
  rw [hx1.ck 18 10 (by decide)]
  refine hx_bs ?_
  refine Hx.bd (cr_add (into := x + 55) (lf := 1) (u := -q.1) hF1.hp hx1 hX1 hB1 (hx1.fs 55 (by omega)) (show x + 56 ∈ PX x by simp) (show x + 58 ∈ PX x by simp) (by omega) (by omega) (by omega) (by omega) (by omega) m1 m2 (sml_m4 n2) (sml_m4 d2) hs1 ht l1.2.2.1 hqq.2.2.1 l1.2.2.2 hqq.2.2.2.1 (by omega) (by rw [if_neg (by omega)])) (fun σ2 _ g => ?_)
  obtain ⟨hF2, q2, e2, hX2⟩ := g
  have e3 := (add_back hqp hqq e1 e2).2
  rw [e3] at hX2
  have hx2 := hx1.kW hF2
  have hA2 := hA1.kW hF2 (offA (Or.inl rfl) (Or.inr rfl))
  have hB2 := hB1.kW hF2 (offA (Or.inr rfl) (Or.inr rfl))
  have hG2 : cW x (sLw x) 0 0 σ σ2 := (hF1.mo (fun r _ hr => by simp only [sR] at hr; simp only [sLw]; omega) (Nat.le_refl _) (Nat.le_refl _)).tr0 hF2 (fun r _ hr => by simp only [sR] at hr; simp only [sLw]; omega)
  rw [show gF σ2 9 15 (x + 18) = some (x + 55) from hx2.gf 9 15 18 55 (by decide) (by decide)]
  refine hx_bs ?_
  rw [hx2.ck 55 6 (by decide)]
  refine hx_bs ?_
  rw [cf_isSame hX2 hA2 hs hs, if_pos ⟨rfl, rfl, rfl⟩]
  refine hx_cs (Hx.ce (sm_eq (show 1 < 2147483648 by omega) (by omega)) (fun z => absurd z (by omega)) (fun _ => ?_))
  rw [(sm_gI (ci := 5) hB2.1.1).trans (congrArg some hB2.2.1.2)]
  refine hx_bs (Hx.ce (iz_nz (by omega)) (fun _ => Hx.ret ⟨rfl, hG2⟩) (fun c => ?_))
  have hn0 : 0 < q.2.1 := Nat.pos_of_ne_zero (fun z => c (hqq.2.1.mpr z))
  rw [show gF σ2 9 14 (x + 18) = some (x + 50) from hx2.gf 9 14 18 50 (by decide) (by decide)]
  refine hx_bs ?_
  rw [hx2.ck 18 10 (by decide)]
  refine hx_bs ?_
  refine Hx.bd (cr_multiply (into := x + 50) hF2.hp hx2 hA2 hB2 (hx2.fs 50 (by omega)) (show x + 51 ∈ PX x by simp) (show x + 53 ∈ PX x by simp) (by omega) (by omega) (by omega) (by omega) (by omega) (sml_m4 n1) (sml_m4 d1) (sml_m4 n2) (sml_m4 d2) hqp.2.2.1 hqq.2.2.1 hqp.2.2.2.1 hqq.2.2.2.1) (fun σ3 _ g => ?_)
  obtain ⟨hF3, q3, e4, hX3⟩ := g
  obtain ⟨l3, _⟩ := mul_back hqp hqq c e4 rfl
  have hx3 := hx2.kW hF3
  have hA3 := hA2.kW hF3 (offA (Or.inl rfl) (Or.inl rfl))
  have hB3 := hB2.kW hF3 (offA (Or.inr rfl) (Or.inl rfl))
  have m3 : sml q3.2.1 200 := by
    rw [e4]
    exact sml_le (qmk_b _ _ _).1 (lt_bp (bp_mul n1 n2) (by omega))
  have m4 : sml q3.2.2 200 := by
    rw [e4]
    exact sml_le (qmk_b _ _ _).2 (lt_bp (bp_mul d1 d2) (by omega))
  rw [show gF σ3 9 14 (x + 18) = some (x + 50) from hx3.gf 9 14 18 50 (by decide) (by decide)]
  refine hx_bs ?_
  rw [hx3.ck 18 10 (by decide)]
  refine hx_bs ?_
  refine Hx.bd (cr_inverse hF3.hp hx3 hB3 (by omega) (by omega) (lt_bp n2 (by omega)) (lt_bp d2 (by omega))) (fun σ4 v g => ?_)
  obtain ⟨hF4, rfl, hX4⟩ := g
  have hx4 := hx3.kW hF4
  have hX34 := hX3.kW hF4 (by simp only [s3]; omega)
  have hA4 := hA3.kW hF4 (by simp only [s3]; omega)
  rw [show gF σ4 9 15 (x + 18) = some (x + 55) from hx4.gf 9 15 18 55 (by decide) (by decide)]
  refine hx_bs ?_
  rw [hx4.ck 18 10 (by decide)]
  refine hx_bs ?_
  refine Hx.bd (cr_multiply (into := x + 55) hF4.hp hx4 hX34 hX4 (hx4.fs 55 (by omega)) (show x + 56 ∈ PX x by simp) (show x + 58 ∈ PX x by simp) (by omega) (by omega) (by omega) (by omega) (by omega) m3 m4 (sml_m4 d2) (sml_m4 n2) l3.2.2.1 hn0 l3.2.2.2 (by rw [Nat.gcd_comm]; exact hqq.2.2.2.1)) (fun σ5 _ g => ?_)
  obtain ⟨hF5, q5, e5, hX5⟩ := g
  have e6 := (mul_back hqp hqq c e4 e5).2
  rw [e6] at hX5
  have hx5 := hx4.kW hF5
  have hA5 := hA4.kW hF5 (offA (Or.inl rfl) (Or.inr rfl))
  rw [show gF σ5 9 15 (x + 18) = some (x + 55) from hx5.gf 9 15 18 55 (by decide) (by decide)]
  refine hx_bs ?_
  rw [hx5.ck 55 6 (by decide)]
  refine hx_bs ?_
  rw [cf_isSame hX5 hA5 hs hs, if_pos ⟨rfl, rfl, rfl⟩]
  refine hx_cs ?_
  rw [show ckZ (nI 1) = some () from rfl]
  refine hx_bs (Hx.ret ⟨rfl, ?_⟩)
  have k3 := hG2.tr0 hF3 (fun r _ hr => by simp only [sR] at hr; simp only [sLw]; omega)
  have k4 := k3.tr0 hF4 (fun r _ hr => by simp only [s3] at hr; simp only [sLw]; omega)
  exact k4.tr0 hF5 (fun r _ hr => by simp only [sR] at hr; simp only [sLw]; omega)
theorem KI.sl {σ : St} {x o : Nat} {s : Kst} (h : KI σ x o s) : gF σ 15 9 x = some (x + 8) ∧ aln σ (x + 8) = some (nI 10) ∧ ∀ k, k < 10 → ∃ q, s.2.2.2.2.1[k]? = some q ∧ ldQ σ 4 (x + 8) (nI k) = some (sQ σ (x + 8) k) ∧ KF σ x (sQ σ (x + 8) k) q := by
  have hx := h.1.2.1
  have hS := h.2.2.1.2.1
  have h10 := hS.1
  refine ⟨hx.gf 15 9 0 8 (by decide) (by decide), (sm_aln (hx.kd 8 104 (by decide)) (by omega)).trans (by rw [hx.nn 8 10 (by decide)]), fun k hk => ?_⟩
  obtain ⟨q, hq⟩ := get_some (l := s.2.2.2.2.1) (i := k) (by omega)
  obtain ⟨_, e2, hF, _⟩ := hS.f hx hq
  exact ⟨q, hq, e2, hF⟩
theorem cl_pairs_in {x o : Nat} {s : Kst} {k4 : St → Nat → Int32 → Int32 → Option (St × Int32)} {P : St → Int32 → Prop} {i : Nat} (hi : i < 10) : ∀ (n j : Nat) (σ : St), 10 - j < n → j ≤ 10 → KI σ x o s → (∀ σ', KI σ' x o s → cO x 0 0 σ σ' → Hx (k4 σ' x (nI 0) (nI (i + 1))) P) → Hx (fX11_wrongPairs_17 k4 n σ x (nI 0) (nI i) (nI j)) P := by
  intro n
  induction n with
  | zero => intro j σ h; omega
  | succ n ih =>
    intro j σ hn hj h hk
    obtain ⟨e9, e10, hs⟩ := h.sl
    have hx := h.1.2.1
    rw [n_fX11_wrongPairs_17, e9]
    refine hx_bs ?_
    rw [e10]
    refine hx_bs (Hx.ce (sm_le (by omega) (by omega)) (fun c => ?_) (fun c => ?_))
    · refine hx_nm ?_
      rw [sm_add]
      exact hk σ h (cO.rf h.1.1)
    · obtain ⟨p, _, l1, hP⟩ := hs i hi
      obtain ⟨q, _, l2, hQ⟩ := hs j (by omega)
      rw [show gF σ 15 16 x = some (x + 18) from hx.gf 15 16 0 18 (by decide) (by decide)]
      refine hx_bs (hx_bs ?_)
      rw [l1]
      refine hx_bs (hx_bs ?_)
      rw [l2]
      refine hx_bs ?_
      rw [hx.ck 18 10 (by decide)]
      refine hx_bs ?_
      refine Hx.bd (cx_isLawful h.1.1 hx hP.2.2.2 hQ.2.2.2 hP.2.2.1 hQ.2.2.1 hP.1 hQ.1) (fun σ1 v g => ?_)
      obtain ⟨rfl, hF⟩ := g
      obtain ⟨h1, hO⟩ := h.lowr hF (fun r hr => hr)
      refine Hx.ce (sm_eq (show 1 < 2147483648 by omega) (by omega)) (fun z => absurd z (by omega)) (fun _ => ?_)
      rw [n_fX11_wrongPairs_51, sm_add]
      refine hx_nm (ih (j + 1) σ1 (by omega) (by omega) h1 (fun σ' h2 hO2 => hk σ' h2 (hO.tr hO2)))
theorem cl_pairs {x o : Nat} {s : Kst} : ∀ (n i : Nat) (σ : St), 10 - i < n → i ≤ 10 → KI σ x o s → Hx (fX11_wrongPairs_4 n σ x (nI 0) (nI i)) (fun σ' v => v = nI 0 ∧ KI σ' x o s ∧ cO x 0 0 σ σ') := by
  intro n
  induction n with
  | zero => intro i σ h; omega
  | succ n ih =>
    intro i σ hn hi h
    obtain ⟨e9, e10, hs⟩ := h.sl
    rw [n_fX11_wrongPairs_4, e9]
    refine hx_bs ?_
    rw [e10]
    refine hx_bs (Hx.ce (sm_le (by omega) (by omega)) (fun c => Hx.ret ⟨rfl, h, cO.rf h.1.1⟩) (fun c => ?_))
    refine hx_nm ?_
    rw [sm_add]
    refine cl_pairs_in (by omega) FU (i + 1) σ (by unfold FU; omega) (by omega) h (fun σ' h' hO => ?_)
    exact (ih (i + 1) σ' (by omega) (by omega) h').mo (fun σ2 v g => ⟨g.1, g.2.1, hO.tr g.2.2⟩)
theorem ki_wrongPairs {x o : Nat} {s : Kst} {σ : St} (h : KI σ x o s) : Hx (fX11_wrongPairs σ x) (fun σ' v => v = nI 0 ∧ KI σ' x o s ∧ cO x 0 0 σ σ') := by
  rw [n_fX11_wrongPairs]
  exact cl_pairs FU 0 σ (by unfold FU; omega) (by omega) h
