/-! ===== fractions in lowest terms ===== -/
theorem gcd_cop {T X g : Nat} (h : Nat.gcd T X = 1) : Nat.gcd (T * g) (X * g * g) = g * Nat.gcd T g := by
  rw [Nat.gcd_mul_right, Nat.gcd_mul_right_right_of_gcd_eq_one h, Nat.mul_comm]
theorem jnN_mul {s t : Int} {x y g : Nat} (hg : 0 < g) : jnN s t (x * g) (y * g) = jnN s t x y * g := by
  unfold jnN
  have e : (x * g < y * g) = (x < y) := propext ⟨fun h => Nat.lt_of_mul_lt_mul_right h, fun h => Nat.mul_lt_mul_of_pos_right h hg⟩
  simp only [e]
  split
  · rw [Nat.add_mul]
  · split
    · rw [Nat.sub_mul]
    · rw [Nat.sub_mul]
theorem jnS_mul {s t : Int} {x y g : Nat} (hg : 0 < g) : jnS s t (x * g) (y * g) = jnS s t x y := by
  unfold jnS
  have e : (x * g < y * g) = (x < y) := propext ⟨fun h => Nat.lt_of_mul_lt_mul_right h, fun h => Nat.mul_lt_mul_of_pos_right h hg⟩
  have e2 : (x * g = y * g) = (x = y) := propext ⟨fun h => Nat.eq_of_mul_eq_mul_right hg h, fun h => by rw [h]⟩
  simp only [e, e2]
theorem jnN_cop {s t : Int} {n D n' D' : Nat} (h1 : Nat.gcd n D = 1) (h2 : Nat.gcd D' D = 1) : Nat.gcd (jnN s t (n * D') (n' * D)) D = 1 := by
  have h3 : Nat.gcd (n * D') D = 1 := Nat.Coprime.mul_left h1 h2
  unfold jnN
  split
  · rw [Nat.gcd_add_mul_right_left]; exact h3
  · split
    · rename_i h; rw [Nat.gcd_mul_right_sub_left (Nat.le_of_lt h)]; exact h3
    · rename_i h; rw [Nat.gcd_sub_mul_right_left (Nat.le_of_not_lt h)]; exact h3
theorem jnN_comm (s t : Int) (x y : Nat) : jnN s t x y = jnN t s y x := by
  unfold jnN
  by_cases h : s = 0 ∨ t = 0 ∨ s = t
  · have h' : t = 0 ∨ s = 0 ∨ t = s := by omega
    rw [if_pos h, if_pos h', Nat.add_comm]
  · have h' : ¬ (t = 0 ∨ s = 0 ∨ t = s) := by omega
    rw [if_neg h, if_neg h']
    by_cases c : x < y
    · have c' : ¬ y < x := by omega
      rw [if_pos c, if_neg c']
    · rw [if_neg c]
      by_cases c2 : y < x
      · rw [if_pos c2]
      · rw [if_neg c2, show x = y by omega]
theorem add_qmk {s t : Int} {n d n' d' : Nat} (hd : 0 < d) (hd' : 0 < d') (c1 : Nat.gcd n d = 1) (c2 : Nat.gcd n' d' = 1) (g T G : Nat) (hg : g = Nat.gcd d d') (hT : T = jnN s t (n * (d' / g)) (n' * (d / g))) (hG : G = Nat.gcd T g) :
    qmk (jnS s t (n * d') (n' * d)) (jnN s t (n * d') (n' * d)) (d * d') = (if T = 0 then 0 else jnS s t (n * (d' / g)) (n' * (d / g)), T / G, d / g * (d' / G)) := by
  have hg0 : 0 < g := by rw [hg]; exact Nat.gcd_pos_of_pos_left _ hd
  obtain ⟨D, hD⟩ := Nat.gcd_dvd_left d d'
  obtain ⟨D', hD'⟩ := Nat.gcd_dvd_right d d'
  rw [← hg] at hD hD'
  have eD : d / g = D := by rw [hD, Nat.mul_div_cancel_left _ hg0]
  have eD' : d' / g = D' := by rw [hD', Nat.mul_div_cancel_left _ hg0]
  have hcop : Nat.gcd D D' = 1 := by
    have := Nat.gcd_mul_left g D D'
    rw [← hD, ← hD', ← hg] at this
    exact Nat.eq_of_mul_eq_mul_left hg0 (by omega)
  rw [eD, eD'] at hT ⊢
  have k1 : Nat.gcd n D = 1 := Nat.Coprime.coprime_dvd_right ⟨g, by rw [hD, Nat.mul_comm]⟩ c1
  have k2 : Nat.gcd n' D' = 1 := Nat.Coprime.coprime_dvd_right ⟨g, by rw [hD', Nat.mul_comm]⟩ c2
  have q1 : Nat.gcd T D = 1 := by rw [hT]; exact jnN_cop k1 (by rw [Nat.gcd_comm]; exact hcop)
  have q2 : Nat.gcd T D' = 1 := by rw [hT, jnN_comm]; exact jnN_cop k2 hcop
  have q3 : Nat.gcd T (D * D') = 1 := Nat.Coprime.mul_right q1 q2
  have e1 : n * d' = n * D' * g := by rw [hD', Nat.mul_assoc, Nat.mul_comm g]
  have e2 : n' * d = n' * D * g := by rw [hD, Nat.mul_assoc, Nat.mul_comm g]
  have e3 : d * d' = D * D' * g * g := by
    rw [hD, hD', Nat.mul_assoc (D * D'), Nat.mul_mul_mul_comm, Nat.mul_comm]
  rw [e1, e2, jnS_mul hg0, jnN_mul hg0, ← hT]
  unfold qmk
  rw [e3, gcd_cop q3, ← hG]
  have hG0 : 0 < G := by rw [hG]; exact Nat.gcd_pos_of_pos_right _ hg0
  have hGg : G ∣ g := by rw [hG]; exact Nat.gcd_dvd_right _ _
  have z : (T * g = 0) = (T = 0) := propext ⟨fun h => by rcases Nat.mul_eq_zero.mp h with h | h <;> omega, fun h => by rw [h, Nat.zero_mul]⟩
  simp only [z]
  congr 2
  · rw [Nat.mul_comm T, Nat.mul_div_mul_left _ _ hg0]
  · rw [Nat.mul_comm (D * D' * g) g, Nat.mul_div_mul_left _ _ hg0, Nat.mul_assoc, Nat.mul_comm D' g, ← hD', Nat.mul_div_assoc]
    exact Nat.dvd_trans hGg ⟨D', hD'⟩
theorem mul_qmk {s : Int} {n d n' d' : Nat} (hd : 0 < d) (hd' : 0 < d') (c1 : Nat.gcd n d = 1) (c2 : Nat.gcd n' d' = 1) (g h : Nat) (hg : g = Nat.gcd n d') (hh : h = Nat.gcd n' d) :
    qmk s (n * n') (d * d') = (if n / g * (n' / h) = 0 then 0 else s, n / g * (n' / h), d / h * (d' / g)) := by
  have hg0 : 0 < g := by rw [hg]; exact Nat.gcd_pos_of_pos_right _ hd'
  have hh0 : 0 < h := by rw [hh]; exact Nat.gcd_pos_of_pos_right _ hd
  obtain ⟨a, ha⟩ := Nat.gcd_dvd_left n d'
  obtain ⟨b, hb⟩ := Nat.gcd_dvd_right n d'
  obtain ⟨c, hc⟩ := Nat.gcd_dvd_left n' d
  obtain ⟨e, he⟩ := Nat.gcd_dvd_right n' d
  rw [← hg] at ha hb
  rw [← hh] at hc he
  have q1 : Nat.gcd a b = 1 := by
    have := Nat.gcd_mul_left g a b
    rw [← ha, ← hb, ← hg] at this
    exact Nat.eq_of_mul_eq_mul_left hg0 (by omega)
  have q2 : Nat.gcd c e = 1 := by
    have := Nat.gcd_mul_left h c e
    rw [← hc, ← he, ← hh] at this
    exact Nat.eq_of_mul_eq_mul_left hh0 (by omega)
  have q3 : Nat.gcd a e = 1 := Nat.Coprime.coprime_dvd_right ⟨h, by rw [he, Nat.mul_comm]⟩ (Nat.Coprime.coprime_dvd_left ⟨g, by rw [ha, Nat.mul_comm]⟩ c1)
  have q4 : Nat.gcd c b = 1 := Nat.Coprime.coprime_dvd_right ⟨g, by rw [hb, Nat.mul_comm]⟩ (Nat.Coprime.coprime_dvd_left ⟨h, by rw [hc, Nat.mul_comm]⟩ c2)
  have q5 : Nat.gcd (a * c) (e * b) = 1 := Nat.Coprime.mul_left (Nat.Coprime.mul_right q3 q1) (Nat.Coprime.mul_right q2 q4)
  have ea : n / g = a := by rw [ha, Nat.mul_div_cancel_left _ hg0]
  have eb : d' / g = b := by rw [hb, Nat.mul_div_cancel_left _ hg0]
  have ec : n' / h = c := by rw [hc, Nat.mul_div_cancel_left _ hh0]
  have ee : d / h = e := by rw [he, Nat.mul_div_cancel_left _ hh0]
  rw [ea, eb, ec, ee]
  have e1 : n * n' = g * h * (a * c) := by rw [ha, hc, Nat.mul_mul_mul_comm]
  have e2 : d * d' = g * h * (e * b) := by rw [he, hb, Nat.mul_mul_mul_comm, Nat.mul_comm h]
  have hgh : 0 < g * h := Nat.mul_pos hg0 hh0
  unfold qmk
  rw [e1, e2, Nat.gcd_mul_left, q5, Nat.mul_one, Nat.mul_div_cancel_left _ hgh, Nat.mul_div_cancel_left _ hgh]
  have z : (g * h * (a * c) = 0) = (a * c = 0) := propext ⟨fun q => by rcases Nat.mul_eq_zero.mp q with q | q <;> omega, fun q => by rw [q, Nat.mul_zero]⟩
  simp only [z]
/-! ===== the class' Reckoner: reduce, join, add, multiply ===== -/
theorem PX_ne {x a : Nat} (h : a ∈ PX x) : x + 19 ≤ a ∧ a ≤ x + 83 := by
  simp only [List.mem_cons, List.not_mem_nil, or_false] at h
  omega
theorem cr_reduce {x v n d : Nat} {s : Int} {σ : St} (hp : HP (PX x) σ) (hx : XS σ x) (hV : FX σ v s n d) (hvx : x + 40 < v) (hn : sml (n) 450) (hd : sml (d) 450) (hrn : rm (PX x) σ (v + 1) (n / Nat.gcd n d)) (hrd : rm (PX x) σ (v + 3) (d / Nat.gcd n d)) :
    Hx (fX5_reduce σ (x + 18) v) (fun σ' _ => cW x (sR x v) 0 0 σ σ' ∧ FX σ' v s (n / Nat.gcd n d) (d / Nat.gcd n d)) := by
  obtain ⟨fsV, sgV, hN, hD⟩ := hV
  have n5 := lt_bp hn (show 450 ≤ 500 by omega)
  have d5 := lt_bp hd (show 450 ≤ 500 by omega)
  have n9 := lt_bp hn (show 450 ≤ 900 by omega)
  have d9 := lt_bp hd (show 450 ≤ 900 by omega)
  have k1 := hN.k8
  have k3 := hD.k8
  rw [n_fX5_reduce]
  have hG := cW.rf (S := (sR x v)) hp
  (repeat (first | with_reducible refine hx_bs ?_ | with_reducible refine hx_cs ?_ | with_reducible refine hx_t ?_ | with_reducible refine hx_f ?_ | ((conv => arg 1; arg 1; simp (disch := first | assumption | omega) only [xf_9_0 hx, xf_9_1 hx, xf_9_2 hx, xf_9_3 hx, xf_9_4 hx, xf_9_5 hx, xf_9_6 hx, xf_9_7 hx, xf_9_8 hx, xf_9_9 hx, xf_9_10 hx, xf_9_11 hx, xf_9_12 hx, xf_9_13 hx, xf_9_14 hx, xf_9_15 hx, xf_9_16 hx, xf_5_1_45 hx, xf_5_2_45 hx, xf_5_1_50 hx, xf_5_2_50 hx, xf_5_1_55 hx, xf_5_2_55 hx, xf_5_1_60 hx, xf_5_2_60 hx, xk_18 hx, xk_19 hx, xk_21 hx, xk_23 hx, xk_25 hx, xk_27 hx, xk_29 hx, xk_31 hx, xk_33 hx, xk_35 hx, xk_37 hx, xk_39 hx, xk_41 hx, xk_43 hx, xk_45 hx, xk_46 hx, xk_48 hx, xk_50 hx, xk_51 hx, xk_53 hx, xk_55 hx, xk_56 hx, xk_58 hx, xk_60 hx, xk_61 hx, xk_63 hx, sgV.2, fx_n fsV, fx_d fsV, fx_i fsV, fx_p fsV, fx_k fsV, fx_kn fsV, fx_kd fsV, nb0, nb1]); first | with_reducible refine hx_bs ?_ | with_reducible refine hx_cs ?_ | with_reducible refine hx_t ?_ | with_reducible refine hx_f ?_ | with_reducible refine hx_nm ?_))); (try (conv => arg 1; arg 1; simp (disch := first | assumption | omega) only [xf_9_0 hx, xf_9_1 hx, xf_9_2 hx, xf_9_3 hx, xf_9_4 hx, xf_9_5 hx, xf_9_6 hx, xf_9_7 hx, xf_9_8 hx, xf_9_9 hx, xf_9_10 hx, xf_9_11 hx, xf_9_12 hx, xf_9_13 hx, xf_9_14 hx, xf_9_15 hx, xf_9_16 hx, xf_5_1_45 hx, xf_5_2_45 hx, xf_5_1_50 hx, xf_5_2_50 hx, xf_5_1_55 hx, xf_5_2_55 hx, xf_5_1_60 hx, xf_5_2_60 hx, xk_18 hx, xk_19 hx, xk_21 hx, xk_23 hx, xk_25 hx, xk_27 hx, xk_29 hx, xk_31 hx, xk_33 hx, xk_35 hx, xk_37 hx, xk_39 hx, xk_41 hx, xk_43 hx, xk_45 hx, xk_46 hx, xk_48 hx, xk_50 hx, xk_51 hx, xk_53 hx, xk_55 hx, xk_56 hx, xk_58 hx, xk_60 hx, xk_61 hx, xk_63 hx, sgV.2, fx_n fsV, fx_d fsV, fx_i fsV, fx_p fsV, fx_k fsV, fx_kn fsV, fx_kd fsV, nb0, nb1]))
  refine Hx.bd (cw_gcd hp hx hN hD (show x + 29 ∈ PX x by simp) (by omega) (by omega) n5 d5) (fun σ1 v1 h1 => ?_)
  obtain ⟨hF1, hC⟩ := h1
  have hp1 := hF1.hp
  have hx1 := hx.kW hF1
  replace fsV := fsV.kW hF1
  try replace sgV := sgV.kW hF1 (by simp only [s1, s2, s3, sG, sR, sRc]; omega)
  try replace hN := hN.kW hF1 (by simp only [s1, s2, s3, sG, sR, sRc]; omega)
  try replace hD := hD.kW hF1 (by simp only [s1, s2, s3, sG, sR, sRc]; omega)
  have hG1 := hG.tr0 hF1 (fun r _ hr => by simp only [s1, s2, s3, sG, sR, sRc] at hr ⊢; omega)
  (repeat (first | with_reducible refine hx_bs ?_ | with_reducible refine hx_cs ?_ | with_reducible refine hx_t ?_ | with_reducible refine hx_f ?_ | ((conv => arg 1; arg 1; simp (disch := first | assumption | omega) only [xf_9_0 hx1, xf_9_1 hx1, xf_9_2 hx1, xf_9_3 hx1, xf_9_4 hx1, xf_9_5 hx1, xf_9_6 hx1, xf_9_7 hx1, xf_9_8 hx1, xf_9_9 hx1, xf_9_10 hx1, xf_9_11 hx1, xf_9_12 hx1, xf_9_13 hx1, xf_9_14 hx1, xf_9_15 hx1, xf_9_16 hx1, xf_5_1_45 hx1, xf_5_2_45 hx1, xf_5_1_50 hx1, xf_5_2_50 hx1, xf_5_1_55 hx1, xf_5_2_55 hx1, xf_5_1_60 hx1, xf_5_2_60 hx1, xk_18 hx1, xk_19 hx1, xk_21 hx1, xk_23 hx1, xk_25 hx1, xk_27 hx1, xk_29 hx1, xk_31 hx1, xk_33 hx1, xk_35 hx1, xk_37 hx1, xk_39 hx1, xk_41 hx1, xk_43 hx1, xk_45 hx1, xk_46 hx1, xk_48 hx1, xk_50 hx1, xk_51 hx1, xk_53 hx1, xk_55 hx1, xk_56 hx1, xk_58 hx1, xk_60 hx1, xk_61 hx1, xk_63 hx1, sgV.2, fx_n fsV, fx_d fsV, fx_i fsV, fx_p fsV, fx_k fsV, fx_kn fsV, fx_kd fsV, nb0, nb1]); first | with_reducible refine hx_bs ?_ | with_reducible refine hx_cs ?_ | with_reducible refine hx_t ?_ | with_reducible refine hx_f ?_ | with_reducible refine hx_nm ?_))); (try (conv => arg 1; arg 1; simp (disch := first | assumption | omega) only [xf_9_0 hx1, xf_9_1 hx1, xf_9_2 hx1, xf_9_3 hx1, xf_9_4 hx1, xf_9_5 hx1, xf_9_6 hx1, xf_9_7 hx1, xf_9_8 hx1, xf_9_9 hx1, xf_9_10 hx1, xf_9_11 hx1, xf_9_12 hx1, xf_9_13 hx1, xf_9_14 hx1, xf_9_15 hx1, xf_9_16 hx1, xf_5_1_45 hx1, xf_5_2_45 hx1, xf_5_1_50 hx1, xf_5_2_50 hx1, xf_5_1_55 hx1, xf_5_2_55 hx1, xf_5_1_60 hx1, xf_5_2_60 hx1, xk_18 hx1, xk_19 hx1, xk_21 hx1, xk_23 hx1, xk_25 hx1, xk_27 hx1, xk_29 hx1, xk_31 hx1, xk_33 hx1, xk_35 hx1, xk_37 hx1, xk_39 hx1, xk_41 hx1, xk_43 hx1, xk_45 hx1, xk_46 hx1, xk_48 hx1, xk_50 hx1, xk_51 hx1, xk_53 hx1, xk_55 hx1, xk_56 hx1, xk_58 hx1, xk_60 hx1, xk_61 hx1, xk_63 hx1, sgV.2, fx_n fsV, fx_d fsV, fx_i fsV, fx_p fsV, fx_k fsV, fx_kn fsV, fx_kd fsV, nb0, nb1]))
  refine Hx.bd (cw_divide hp1 hx1 hN hC (show x + 33 ∈ PX x by simp) (show x + 23 ∈ PX x by simp) n9 (by omega)) (fun σ2 v2 h2 => ?_)
  obtain ⟨hF2, hA, _⟩ := h2
  have hp2 := hF2.hp
  have hx2 := hx1.kW hF2
  replace fsV := fsV.kW hF2
  try replace sgV := sgV.kW hF2 (by simp only [s1, s2, s3, sG, sR, sRc]; omega)
  try replace hN := hN.kW hF2 (by simp only [s1, s2, s3, sG, sR, sRc]; omega)
  try replace hD := hD.kW hF2 (by simp only [s1, s2, s3, sG, sR, sRc]; omega)
  try replace hC := hC.kW hF2 (by simp only [s1, s2, s3, sG, sR, sRc]; omega)
  have hG2 := hG1.tr0 hF2 (fun r _ hr => by simp only [s1, s2, s3, sG, sR, sRc] at hr ⊢; omega)
  (repeat (first | with_reducible refine hx_bs ?_ | with_reducible refine hx_cs ?_ | with_reducible refine hx_t ?_ | with_reducible refine hx_f ?_ | ((conv => arg 1; arg 1; simp (disch := first | assumption | omega) only [xf_9_0 hx2, xf_9_1 hx2, xf_9_2 hx2, xf_9_3 hx2, xf_9_4 hx2, xf_9_5 hx2, xf_9_6 hx2, xf_9_7 hx2, xf_9_8 hx2, xf_9_9 hx2, xf_9_10 hx2, xf_9_11 hx2, xf_9_12 hx2, xf_9_13 hx2, xf_9_14 hx2, xf_9_15 hx2, xf_9_16 hx2, xf_5_1_45 hx2, xf_5_2_45 hx2, xf_5_1_50 hx2, xf_5_2_50 hx2, xf_5_1_55 hx2, xf_5_2_55 hx2, xf_5_1_60 hx2, xf_5_2_60 hx2, xk_18 hx2, xk_19 hx2, xk_21 hx2, xk_23 hx2, xk_25 hx2, xk_27 hx2, xk_29 hx2, xk_31 hx2, xk_33 hx2, xk_35 hx2, xk_37 hx2, xk_39 hx2, xk_41 hx2, xk_43 hx2, xk_45 hx2, xk_46 hx2, xk_48 hx2, xk_50 hx2, xk_51 hx2, xk_53 hx2, xk_55 hx2, xk_56 hx2, xk_58 hx2, xk_60 hx2, xk_61 hx2, xk_63 hx2, sgV.2, fx_n fsV, fx_d fsV, fx_i fsV, fx_p fsV, fx_k fsV, fx_kn fsV, fx_kd fsV, nb0, nb1]); first | with_reducible refine hx_bs ?_ | with_reducible refine hx_cs ?_ | with_reducible refine hx_t ?_ | with_reducible refine hx_f ?_ | with_reducible refine hx_nm ?_))); (try (conv => arg 1; arg 1; simp (disch := first | assumption | omega) only [xf_9_0 hx2, xf_9_1 hx2, xf_9_2 hx2, xf_9_3 hx2, xf_9_4 hx2, xf_9_5 hx2, xf_9_6 hx2, xf_9_7 hx2, xf_9_8 hx2, xf_9_9 hx2, xf_9_10 hx2, xf_9_11 hx2, xf_9_12 hx2, xf_9_13 hx2, xf_9_14 hx2, xf_9_15 hx2, xf_9_16 hx2, xf_5_1_45 hx2, xf_5_2_45 hx2, xf_5_1_50 hx2, xf_5_2_50 hx2, xf_5_1_55 hx2, xf_5_2_55 hx2, xf_5_1_60 hx2, xf_5_2_60 hx2, xk_18 hx2, xk_19 hx2, xk_21 hx2, xk_23 hx2, xk_25 hx2, xk_27 hx2, xk_29 hx2, xk_31 hx2, xk_33 hx2, xk_35 hx2, xk_37 hx2, xk_39 hx2, xk_41 hx2, xk_43 hx2, xk_45 hx2, xk_46 hx2, xk_48 hx2, xk_50 hx2, xk_51 hx2, xk_53 hx2, xk_55 hx2, xk_56 hx2, xk_58 hx2, xk_60 hx2, xk_61 hx2, xk_63 hx2, sgV.2, fx_n fsV, fx_d fsV, fx_i fsV, fx_p fsV, fx_k fsV, fx_kn fsV, fx_kd fsV, nb0, nb1]))
  refine Hx.bd (cw_divide hp2 hx2 hD hC (show x + 35 ∈ PX x by simp) (show x + 23 ∈ PX x by simp) d9 (by omega)) (fun σ3 v3 h3 => ?_)
  obtain ⟨hF3, hB, _⟩ := h3
  have hp3 := hF3.hp
  have hx3 := hx2.kW hF3
  replace fsV := fsV.kW hF3
  try replace sgV := sgV.kW hF3 (by simp only [s1, s2, s3, sG, sR, sRc]; omega)
  try replace hN := hN.kW hF3 (by simp only [s1, s2, s3, sG, sR, sRc]; omega)
  try replace hD := hD.kW hF3 (by simp only [s1, s2, s3, sG, sR, sRc]; omega)
  try replace hC := hC.kW hF3 (by simp only [s1, s2, s3, sG, sR, sRc]; omega)
  try replace hA := hA.kW hF3 (by simp only [s1, s2, s3, sG, sR, sRc]; omega)
  have hG3 := hG2.tr0 hF3 (fun r _ hr => by simp only [s1, s2, s3, sG, sR, sRc] at hr ⊢; omega)
  (repeat (first | with_reducible refine hx_bs ?_ | with_reducible refine hx_cs ?_ | with_reducible refine hx_t ?_ | with_reducible refine hx_f ?_ | ((conv => arg 1; arg 1; simp (disch := first | assumption | omega) only [xf_9_0 hx3, xf_9_1 hx3, xf_9_2 hx3, xf_9_3 hx3, xf_9_4 hx3, xf_9_5 hx3, xf_9_6 hx3, xf_9_7 hx3, xf_9_8 hx3, xf_9_9 hx3, xf_9_10 hx3, xf_9_11 hx3, xf_9_12 hx3, xf_9_13 hx3, xf_9_14 hx3, xf_9_15 hx3, xf_9_16 hx3, xf_5_1_45 hx3, xf_5_2_45 hx3, xf_5_1_50 hx3, xf_5_2_50 hx3, xf_5_1_55 hx3, xf_5_2_55 hx3, xf_5_1_60 hx3, xf_5_2_60 hx3, xk_18 hx3, xk_19 hx3, xk_21 hx3, xk_23 hx3, xk_25 hx3, xk_27 hx3, xk_29 hx3, xk_31 hx3, xk_33 hx3, xk_35 hx3, xk_37 hx3, xk_39 hx3, xk_41 hx3, xk_43 hx3, xk_45 hx3, xk_46 hx3, xk_48 hx3, xk_50 hx3, xk_51 hx3, xk_53 hx3, xk_55 hx3, xk_56 hx3, xk_58 hx3, xk_60 hx3, xk_61 hx3, xk_63 hx3, sgV.2, fx_n fsV, fx_d fsV, fx_i fsV, fx_p fsV, fx_k fsV, fx_kn fsV, fx_kd fsV, nb0, nb1]); first | with_reducible refine hx_bs ?_ | with_reducible refine hx_cs ?_ | with_reducible refine hx_t ?_ | with_reducible refine hx_f ?_ | with_reducible refine hx_nm ?_))); (try (conv => arg 1; arg 1; simp (disch := first | assumption | omega) only [xf_9_0 hx3, xf_9_1 hx3, xf_9_2 hx3, xf_9_3 hx3, xf_9_4 hx3, xf_9_5 hx3, xf_9_6 hx3, xf_9_7 hx3, xf_9_8 hx3, xf_9_9 hx3, xf_9_10 hx3, xf_9_11 hx3, xf_9_12 hx3, xf_9_13 hx3, xf_9_14 hx3, xf_9_15 hx3, xf_9_16 hx3, xf_5_1_45 hx3, xf_5_2_45 hx3, xf_5_1_50 hx3, xf_5_2_50 hx3, xf_5_1_55 hx3, xf_5_2_55 hx3, xf_5_1_60 hx3, xf_5_2_60 hx3, xk_18 hx3, xk_19 hx3, xk_21 hx3, xk_23 hx3, xk_25 hx3, xk_27 hx3, xk_29 hx3, xk_31 hx3, xk_33 hx3, xk_35 hx3, xk_37 hx3, xk_39 hx3, xk_41 hx3, xk_43 hx3, xk_45 hx3, xk_46 hx3, xk_48 hx3, xk_50 hx3, xk_51 hx3, xk_53 hx3, xk_55 hx3, xk_56 hx3, xk_58 hx3, xk_60 hx3, xk_61 hx3, xk_63 hx3, sgV.2, fx_n fsV, fx_d fsV, fx_i fsV, fx_p fsV, fx_k fsV, fx_kn fsV, fx_kd fsV, nb0, nb1]))
  refine Hx.bd (cw_setTo hp3 hN hA (hrn.kW hG3 k1) (lt_bp (bp_dvd _ hn) (by omega))) (fun σ4 v4 h4 => ?_)
  obtain ⟨hF4, hN4⟩ := h4
  have hp4 := hF4.hp
  have hx4 := hx3.kW hF4
  replace fsV := fsV.kW hF4
  try replace sgV := sgV.kW hF4 (by simp only [s1, s2, s3, sG, sR, sRc]; omega)
  try replace hN := hN.kW hF4 (by simp only [s1, s2, s3, sG, sR, sRc]; omega)
  try replace hD := hD.kW hF4 (by simp only [s1, s2, s3, sG, sR, sRc]; omega)
  try replace hC := hC.kW hF4 (by simp only [s1, s2, s3, sG, sR, sRc]; omega)
  try replace hA := hA.kW hF4 (by simp only [s1, s2, s3, sG, sR, sRc]; omega)
  try replace hB := hB.kW hF4 (by simp only [s1, s2, s3, sG, sR, sRc]; omega)
  have hG4 := hG3.tr0 hF4 (fun r _ hr => by simp only [s1, s2, s3, sG, sR, sRc] at hr ⊢; omega)
  (repeat (first | with_reducible refine hx_bs ?_ | with_reducible refine hx_cs ?_ | with_reducible refine hx_t ?_ | with_reducible refine hx_f ?_ | ((conv => arg 1; arg 1; simp (disch := first | assumption | omega) only [xf_9_0 hx4, xf_9_1 hx4, xf_9_2 hx4, xf_9_3 hx4, xf_9_4 hx4, xf_9_5 hx4, xf_9_6 hx4, xf_9_7 hx4, xf_9_8 hx4, xf_9_9 hx4, xf_9_10 hx4, xf_9_11 hx4, xf_9_12 hx4, xf_9_13 hx4, xf_9_14 hx4, xf_9_15 hx4, xf_9_16 hx4, xf_5_1_45 hx4, xf_5_2_45 hx4, xf_5_1_50 hx4, xf_5_2_50 hx4, xf_5_1_55 hx4, xf_5_2_55 hx4, xf_5_1_60 hx4, xf_5_2_60 hx4, xk_18 hx4, xk_19 hx4, xk_21 hx4, xk_23 hx4, xk_25 hx4, xk_27 hx4, xk_29 hx4, xk_31 hx4, xk_33 hx4, xk_35 hx4, xk_37 hx4, xk_39 hx4, xk_41 hx4, xk_43 hx4, xk_45 hx4, xk_46 hx4, xk_48 hx4, xk_50 hx4, xk_51 hx4, xk_53 hx4, xk_55 hx4, xk_56 hx4, xk_58 hx4, xk_60 hx4, xk_61 hx4, xk_63 hx4, sgV.2, fx_n fsV, fx_d fsV, fx_i fsV, fx_p fsV, fx_k fsV, fx_kn fsV, fx_kd fsV, nb0, nb1]); first | with_reducible refine hx_bs ?_ | with_reducible refine hx_cs ?_ | with_reducible refine hx_t ?_ | with_reducible refine hx_f ?_ | with_reducible refine hx_nm ?_))); (try (conv => arg 1; arg 1; simp (disch := first | assumption | omega) only [xf_9_0 hx4, xf_9_1 hx4, xf_9_2 hx4, xf_9_3 hx4, xf_9_4 hx4, xf_9_5 hx4, xf_9_6 hx4, xf_9_7 hx4, xf_9_8 hx4, xf_9_9 hx4, xf_9_10 hx4, xf_9_11 hx4, xf_9_12 hx4, xf_9_13 hx4, xf_9_14 hx4, xf_9_15 hx4, xf_9_16 hx4, xf_5_1_45 hx4, xf_5_2_45 hx4, xf_5_1_50 hx4, xf_5_2_50 hx4, xf_5_1_55 hx4, xf_5_2_55 hx4, xf_5_1_60 hx4, xf_5_2_60 hx4, xk_18 hx4, xk_19 hx4, xk_21 hx4, xk_23 hx4, xk_25 hx4, xk_27 hx4, xk_29 hx4, xk_31 hx4, xk_33 hx4, xk_35 hx4, xk_37 hx4, xk_39 hx4, xk_41 hx4, xk_43 hx4, xk_45 hx4, xk_46 hx4, xk_48 hx4, xk_50 hx4, xk_51 hx4, xk_53 hx4, xk_55 hx4, xk_56 hx4, xk_58 hx4, xk_60 hx4, xk_61 hx4, xk_63 hx4, sgV.2, fx_n fsV, fx_d fsV, fx_i fsV, fx_p fsV, fx_k fsV, fx_kn fsV, fx_kd fsV, nb0, nb1]))
  refine Hx.bd (cw_setTo hp4 hD hB (hrd.kW hG4 k3) (lt_bp (bp_dvd _ hd) (by omega))) (fun σ5 v5 h5 => ?_)
  obtain ⟨hF5, hD5⟩ := h5
  have hp5 := hF5.hp
  have hx5 := hx4.kW hF5
  replace fsV := fsV.kW hF5
  try replace sgV := sgV.kW hF5 (by simp only [s1, s2, s3, sG, sR, sRc]; omega)
  try replace hN := hN.kW hF5 (by simp only [s1, s2, s3, sG, sR, sRc]; omega)
  try replace hD := hD.kW hF5 (by simp only [s1, s2, s3, sG, sR, sRc]; omega)
  try replace hC := hC.kW hF5 (by simp only [s1, s2, s3, sG, sR, sRc]; omega)
  try replace hA := hA.kW hF5 (by simp only [s1, s2, s3, sG, sR, sRc]; omega)
  try replace hB := hB.kW hF5 (by simp only [s1, s2, s3, sG, sR, sRc]; omega)
  try replace hN4 := hN4.kW hF5 (by simp only [s1, s2, s3, sG, sR, sRc]; omega)
  have hG5 := hG4.tr0 hF5 (fun r _ hr => by simp only [s1, s2, s3, sG, sR, sRc] at hr ⊢; omega)
  (repeat (first | with_reducible refine hx_bs ?_ | with_reducible refine hx_cs ?_ | with_reducible refine hx_t ?_ | with_reducible refine hx_f ?_ | ((conv => arg 1; arg 1; simp (disch := first | assumption | omega) only [xf_9_0 hx5, xf_9_1 hx5, xf_9_2 hx5, xf_9_3 hx5, xf_9_4 hx5, xf_9_5 hx5, xf_9_6 hx5, xf_9_7 hx5, xf_9_8 hx5, xf_9_9 hx5, xf_9_10 hx5, xf_9_11 hx5, xf_9_12 hx5, xf_9_13 hx5, xf_9_14 hx5, xf_9_15 hx5, xf_9_16 hx5, xf_5_1_45 hx5, xf_5_2_45 hx5, xf_5_1_50 hx5, xf_5_2_50 hx5, xf_5_1_55 hx5, xf_5_2_55 hx5, xf_5_1_60 hx5, xf_5_2_60 hx5, xk_18 hx5, xk_19 hx5, xk_21 hx5, xk_23 hx5, xk_25 hx5, xk_27 hx5, xk_29 hx5, xk_31 hx5, xk_33 hx5, xk_35 hx5, xk_37 hx5, xk_39 hx5, xk_41 hx5, xk_43 hx5, xk_45 hx5, xk_46 hx5, xk_48 hx5, xk_50 hx5, xk_51 hx5, xk_53 hx5, xk_55 hx5, xk_56 hx5, xk_58 hx5, xk_60 hx5, xk_61 hx5, xk_63 hx5, sgV.2, fx_n fsV, fx_d fsV, fx_i fsV, fx_p fsV, fx_k fsV, fx_kn fsV, fx_kd fsV, nb0, nb1]); first | with_reducible refine hx_bs ?_ | with_reducible refine hx_cs ?_ | with_reducible refine hx_t ?_ | with_reducible refine hx_f ?_ | with_reducible refine hx_nm ?_))); (try (conv => arg 1; arg 1; simp (disch := first | assumption | omega) only [xf_9_0 hx5, xf_9_1 hx5, xf_9_2 hx5, xf_9_3 hx5, xf_9_4 hx5, xf_9_5 hx5, xf_9_6 hx5, xf_9_7 hx5, xf_9_8 hx5, xf_9_9 hx5, xf_9_10 hx5, xf_9_11 hx5, xf_9_12 hx5, xf_9_13 hx5, xf_9_14 hx5, xf_9_15 hx5, xf_9_16 hx5, xf_5_1_45 hx5, xf_5_2_45 hx5, xf_5_1_50 hx5, xf_5_2_50 hx5, xf_5_1_55 hx5, xf_5_2_55 hx5, xf_5_1_60 hx5, xf_5_2_60 hx5, xk_18 hx5, xk_19 hx5, xk_21 hx5, xk_23 hx5, xk_25 hx5, xk_27 hx5, xk_29 hx5, xk_31 hx5, xk_33 hx5, xk_35 hx5, xk_37 hx5, xk_39 hx5, xk_41 hx5, xk_43 hx5, xk_45 hx5, xk_46 hx5, xk_48 hx5, xk_50 hx5, xk_51 hx5, xk_53 hx5, xk_55 hx5, xk_56 hx5, xk_58 hx5, xk_60 hx5, xk_61 hx5, xk_63 hx5, sgV.2, fx_n fsV, fx_d fsV, fx_i fsV, fx_p fsV, fx_k fsV, fx_kn fsV, fx_kd fsV, nb0, nb1]))
  exact Hx.ret ⟨hG5, fsV, sgV, hN4, hD5⟩
theorem cr_join {x into X Y : Nat} {s t : Int} {σ : St} (hp : HP (PX x) σ) (hx : XS σ x) (hL : Nt σ (x + 37) X) (hR : Nt σ (x + 39) Y) (fsI : FS σ into) (hI : into + 1 ∈ PX x) (hix : x + 40 < into) (hX : sml (X) 900) (hY : sml (Y) 900) (hs : -1 ≤ s ∧ s ≤ 1) (ht : -1 ≤ t ∧ t ≤ 1) :
    Hx (fX5_join σ (x + 18) (iz s) (iz t) into) (fun σ' _ => cW x (s2 into (into + 1)) 0 0 σ σ' ∧ Sg σ' into (if jnN s t X Y = 0 then 0 else jnS s t X Y) ∧ Nt σ' (into + 1) (jnN s t X Y)) := by
  have hb := cmp3_b X Y
  obtain ⟨z, hZ⟩ := hp.2 _ hI
  have x9 := lt_bp hX (show 900 ≤ 999 by omega)
  have y9 := lt_bp hY (show 900 ≤ 999 by omega)
  have x10 := lt_bp hX (show 900 ≤ 1000 by omega)
  have y10 := lt_bp hY (show 900 ≤ 1000 by omega)
  have hst : (iz s * iz t < nI 0) = (s * t < 0) := by
    have h9 : -1 ≤ s * t ∧ s * t ≤ 1 := by
      rcases (show s = -1 ∨ s = 0 ∨ s = 1 by omega) with rfl | rfl | rfl <;> omega
    rw [iz_mul, show nI 0 = iz (0 : Int) from rfl, iz_lt (by omega) (by omega) (by omega) (by omega)]
  have hst2 : s * t < 0 ↔ ¬ (s = 0 ∨ t = 0 ∨ s = t) := by
    rcases (show s = -1 ∨ s = 0 ∨ s = 1 by omega) with rfl | rfl | rfl <;> omega
  have hlt : (iz (cmp3 X Y) < nI 0) = (X < Y) := by
    rw [show nI 0 = iz (0 : Int) from rfl, iz_lt (by omega) (by omega) (by omega) (by omega), cmp3_lt]
  rw [n_fX5_join]
  have hG := cW.rf (S := (s2 into (into + 1))) hp
  (repeat (first | with_reducible refine hx_bs ?_ | with_reducible refine hx_cs ?_ | with_reducible refine hx_t ?_ | with_reducible refine hx_f ?_ | ((conv => arg 1; arg 1; simp (disch := first | assumption | omega) only [xf_9_0 hx, xf_9_1 hx, xf_9_2 hx, xf_9_3 hx, xf_9_4 hx, xf_9_5 hx, xf_9_6 hx, xf_9_7 hx, xf_9_8 hx, xf_9_9 hx, xf_9_10 hx, xf_9_11 hx, xf_9_12 hx, xf_9_13 hx, xf_9_14 hx, xf_9_15 hx, xf_9_16 hx, xf_5_1_45 hx, xf_5_2_45 hx, xf_5_1_50 hx, xf_5_2_50 hx, xf_5_1_55 hx, xf_5_2_55 hx, xf_5_1_60 hx, xf_5_2_60 hx, xk_18 hx, xk_19 hx, xk_21 hx, xk_23 hx, xk_25 hx, xk_27 hx, xk_29 hx, xk_31 hx, xk_33 hx, xk_35 hx, xk_37 hx, xk_39 hx, xk_41 hx, xk_43 hx, xk_45 hx, xk_46 hx, xk_48 hx, xk_50 hx, xk_51 hx, xk_53 hx, xk_55 hx, xk_56 hx, xk_58 hx, xk_60 hx, xk_61 hx, xk_63 hx, fx_n fsI, fx_d fsI, fx_i fsI, fx_p fsI, fx_k fsI, fx_kn fsI, fx_kd fsI, nb0, nb1, cn_against hL hR, hst, hlt]); first | with_reducible refine hx_bs ?_ | with_reducible refine hx_cs ?_ | with_reducible refine hx_t ?_ | with_reducible refine hx_f ?_ | with_reducible refine hx_nm ?_))); (try (conv => arg 1; arg 1; simp (disch := first | assumption | omega) only [xf_9_0 hx, xf_9_1 hx, xf_9_2 hx, xf_9_3 hx, xf_9_4 hx, xf_9_5 hx, xf_9_6 hx, xf_9_7 hx, xf_9_8 hx, xf_9_9 hx, xf_9_10 hx, xf_9_11 hx, xf_9_12 hx, xf_9_13 hx, xf_9_14 hx, xf_9_15 hx, xf_9_16 hx, xf_5_1_45 hx, xf_5_2_45 hx, xf_5_1_50 hx, xf_5_2_50 hx, xf_5_1_55 hx, xf_5_2_55 hx, xf_5_1_60 hx, xf_5_2_60 hx, xk_18 hx, xk_19 hx, xk_21 hx, xk_23 hx, xk_25 hx, xk_27 hx, xk_29 hx, xk_31 hx, xk_33 hx, xk_35 hx, xk_37 hx, xk_39 hx, xk_41 hx, xk_43 hx, xk_45 hx, xk_46 hx, xk_48 hx, xk_50 hx, xk_51 hx, xk_53 hx, xk_55 hx, xk_56 hx, xk_58 hx, xk_60 hx, xk_61 hx, xk_63 hx, fx_n fsI, fx_d fsI, fx_i fsI, fx_p fsI, fx_k fsI, fx_kn fsI, fx_kd fsI, nb0, nb1, cn_against hL hR, hst, hlt]))
  refine Hx.cs (fun c => ?_) (fun c => ?_)
  · have c0 := hst2.mp c
    refine Hx.cs (fun c1 => ?_) (fun c1 => ?_)
    · rw [hlt] at c1
      (repeat (first | with_reducible refine hx_bs ?_ | with_reducible refine hx_cs ?_ | with_reducible refine hx_t ?_ | with_reducible refine hx_f ?_ | ((conv => arg 1; arg 1; simp (disch := first | assumption | omega) only [xf_9_0 hx, xf_9_1 hx, xf_9_2 hx, xf_9_3 hx, xf_9_4 hx, xf_9_5 hx, xf_9_6 hx, xf_9_7 hx, xf_9_8 hx, xf_9_9 hx, xf_9_10 hx, xf_9_11 hx, xf_9_12 hx, xf_9_13 hx, xf_9_14 hx, xf_9_15 hx, xf_9_16 hx, xf_5_1_45 hx, xf_5_2_45 hx, xf_5_1_50 hx, xf_5_2_50 hx, xf_5_1_55 hx, xf_5_2_55 hx, xf_5_1_60 hx, xf_5_2_60 hx, xk_18 hx, xk_19 hx, xk_21 hx, xk_23 hx, xk_25 hx, xk_27 hx, xk_29 hx, xk_31 hx, xk_33 hx, xk_35 hx, xk_37 hx, xk_39 hx, xk_41 hx, xk_43 hx, xk_45 hx, xk_46 hx, xk_48 hx, xk_50 hx, xk_51 hx, xk_53 hx, xk_55 hx, xk_56 hx, xk_58 hx, xk_60 hx, xk_61 hx, xk_63 hx, fx_n fsI, fx_d fsI, fx_i fsI, fx_p fsI, fx_k fsI, fx_kn fsI, fx_kd fsI, nb0, nb1]); first | with_reducible refine hx_bs ?_ | with_reducible refine hx_cs ?_ | with_reducible refine hx_t ?_ | with_reducible refine hx_f ?_ | with_reducible refine hx_nm ?_))); (try (conv => arg 1; arg 1; simp (disch := first | assumption | omega) only [xf_9_0 hx, xf_9_1 hx, xf_9_2 hx, xf_9_3 hx, xf_9_4 hx, xf_9_5 hx, xf_9_6 hx, xf_9_7 hx, xf_9_8 hx, xf_9_9 hx, xf_9_10 hx, xf_9_11 hx, xf_9_12 hx, xf_9_13 hx, xf_9_14 hx, xf_9_15 hx, xf_9_16 hx, xf_5_1_45 hx, xf_5_2_45 hx, xf_5_1_50 hx, xf_5_2_50 hx, xf_5_1_55 hx, xf_5_2_55 hx, xf_5_1_60 hx, xf_5_2_60 hx, xk_18 hx, xk_19 hx, xk_21 hx, xk_23 hx, xk_25 hx, xk_27 hx, xk_29 hx, xk_31 hx, xk_33 hx, xk_35 hx, xk_37 hx, xk_39 hx, xk_41 hx, xk_43 hx, xk_45 hx, xk_46 hx, xk_48 hx, xk_50 hx, xk_51 hx, xk_53 hx, xk_55 hx, xk_56 hx, xk_58 hx, xk_60 hx, xk_61 hx, xk_63 hx, fx_n fsI, fx_d fsI, fx_i fsI, fx_p fsI, fx_k fsI, fx_kn fsI, fx_kd fsI, nb0, nb1]))
      refine Hx.bd (cw_setTo hp hZ hR (Or.inl hI) y10) (fun σ1 v1 h1 => ?_)
      obtain ⟨hF1, hN⟩ := h1
      have hp1 := hF1.hp
      have hx1 := hx.kW hF1
      replace fsI := fsI.kW hF1
      try replace hL := hL.kW hF1 (by simp only [s1, s2, s3, sG, sR, sRc]; omega)
      try replace hR := hR.kW hF1 (by simp only [s1, s2, s3, sG, sR, sRc]; omega)
      try replace hZ := hZ.kW hF1 (by simp only [s1, s2, s3, sG, sR, sRc]; omega)
      have hG1 := hG.tr0 hF1 (fun r _ hr => by simp only [s1, s2, s3, sG, sR, sRc] at hr ⊢; omega)
      (repeat (first | with_reducible refine hx_bs ?_ | with_reducible refine hx_cs ?_ | with_reducible refine hx_t ?_ | with_reducible refine hx_f ?_ | ((conv => arg 1; arg 1; simp (disch := first | assumption | omega) only [xf_9_0 hx1, xf_9_1 hx1, xf_9_2 hx1, xf_9_3 hx1, xf_9_4 hx1, xf_9_5 hx1, xf_9_6 hx1, xf_9_7 hx1, xf_9_8 hx1, xf_9_9 hx1, xf_9_10 hx1, xf_9_11 hx1, xf_9_12 hx1, xf_9_13 hx1, xf_9_14 hx1, xf_9_15 hx1, xf_9_16 hx1, xf_5_1_45 hx1, xf_5_2_45 hx1, xf_5_1_50 hx1, xf_5_2_50 hx1, xf_5_1_55 hx1, xf_5_2_55 hx1, xf_5_1_60 hx1, xf_5_2_60 hx1, xk_18 hx1, xk_19 hx1, xk_21 hx1, xk_23 hx1, xk_25 hx1, xk_27 hx1, xk_29 hx1, xk_31 hx1, xk_33 hx1, xk_35 hx1, xk_37 hx1, xk_39 hx1, xk_41 hx1, xk_43 hx1, xk_45 hx1, xk_46 hx1, xk_48 hx1, xk_50 hx1, xk_51 hx1, xk_53 hx1, xk_55 hx1, xk_56 hx1, xk_58 hx1, xk_60 hx1, xk_61 hx1, xk_63 hx1, fx_n fsI, fx_d fsI, fx_i fsI, fx_p fsI, fx_k fsI, fx_kn fsI, fx_kd fsI, nb0, nb1]); first | with_reducible refine hx_bs ?_ | with_reducible refine hx_cs ?_ | with_reducible refine hx_t ?_ | with_reducible refine hx_f ?_ | with_reducible refine hx_nm ?_))); (try (conv => arg 1; arg 1; simp (disch := first | assumption | omega) only [xf_9_0 hx1, xf_9_1 hx1, xf_9_2 hx1, xf_9_3 hx1, xf_9_4 hx1, xf_9_5 hx1, xf_9_6 hx1, xf_9_7 hx1, xf_9_8 hx1, xf_9_9 hx1, xf_9_10 hx1, xf_9_11 hx1, xf_9_12 hx1, xf_9_13 hx1, xf_9_14 hx1, xf_9_15 hx1, xf_9_16 hx1, xf_5_1_45 hx1, xf_5_2_45 hx1, xf_5_1_50 hx1, xf_5_2_50 hx1, xf_5_1_55 hx1, xf_5_2_55 hx1, xf_5_1_60 hx1, xf_5_2_60 hx1, xk_18 hx1, xk_19 hx1, xk_21 hx1, xk_23 hx1, xk_25 hx1, xk_27 hx1, xk_29 hx1, xk_31 hx1, xk_33 hx1, xk_35 hx1, xk_37 hx1, xk_39 hx1, xk_41 hx1, xk_43 hx1, xk_45 hx1, xk_46 hx1, xk_48 hx1, xk_50 hx1, xk_51 hx1, xk_53 hx1, xk_55 hx1, xk_56 hx1, xk_58 hx1, xk_60 hx1, xk_61 hx1, xk_63 hx1, fx_n fsI, fx_d fsI, fx_i fsI, fx_p fsI, fx_k fsI, fx_kn fsI, fx_kd fsI, nb0, nb1]))
      refine Hx.bd (cw_minus hp1 hN hL (by omega) (Nat.le_of_lt c1)) (fun σ2 v2 h2 => ?_)
      obtain ⟨hF2, hN⟩ := h2
      have hp2 := hF2.hp
      have hx2 := hx1.kW hF2
      replace fsI := fsI.kW hF2
      try replace hL := hL.kW hF2 (by simp only [s1, s2, s3, sG, sR, sRc]; omega)
      try replace hR := hR.kW hF2 (by simp only [s1, s2, s3, sG, sR, sRc]; omega)
      try replace hZ := hZ.kW hF2 (by simp only [s1, s2, s3, sG, sR, sRc]; omega)
      have hG2 := hG1.tr0 hF2 (fun r _ hr => by simp only [s1, s2, s3, sG, sR, sRc] at hr ⊢; omega)
      (repeat (first | with_reducible refine hx_bs ?_ | with_reducible refine hx_cs ?_ | with_reducible refine hx_t ?_ | with_reducible refine hx_f ?_ | ((conv => arg 1; arg 1; simp (disch := first | assumption | omega) only [xf_9_0 hx2, xf_9_1 hx2, xf_9_2 hx2, xf_9_3 hx2, xf_9_4 hx2, xf_9_5 hx2, xf_9_6 hx2, xf_9_7 hx2, xf_9_8 hx2, xf_9_9 hx2, xf_9_10 hx2, xf_9_11 hx2, xf_9_12 hx2, xf_9_13 hx2, xf_9_14 hx2, xf_9_15 hx2, xf_9_16 hx2, xf_5_1_45 hx2, xf_5_2_45 hx2, xf_5_1_50 hx2, xf_5_2_50 hx2, xf_5_1_55 hx2, xf_5_2_55 hx2, xf_5_1_60 hx2, xf_5_2_60 hx2, xk_18 hx2, xk_19 hx2, xk_21 hx2, xk_23 hx2, xk_25 hx2, xk_27 hx2, xk_29 hx2, xk_31 hx2, xk_33 hx2, xk_35 hx2, xk_37 hx2, xk_39 hx2, xk_41 hx2, xk_43 hx2, xk_45 hx2, xk_46 hx2, xk_48 hx2, xk_50 hx2, xk_51 hx2, xk_53 hx2, xk_55 hx2, xk_56 hx2, xk_58 hx2, xk_60 hx2, xk_61 hx2, xk_63 hx2, fx_n fsI, fx_d fsI, fx_i fsI, fx_p fsI, fx_k fsI, fx_kn fsI, fx_kd fsI, nb0, nb1]); first | with_reducible refine hx_bs ?_ | with_reducible refine hx_cs ?_ | with_reducible refine hx_t ?_ | with_reducible refine hx_f ?_ | with_reducible refine hx_nm ?_))); (try (conv => arg 1; arg 1; simp (disch := first | assumption | omega) only [xf_9_0 hx2, xf_9_1 hx2, xf_9_2 hx2, xf_9_3 hx2, xf_9_4 hx2, xf_9_5 hx2, xf_9_6 hx2, xf_9_7 hx2, xf_9_8 hx2, xf_9_9 hx2, xf_9_10 hx2, xf_9_11 hx2, xf_9_12 hx2, xf_9_13 hx2, xf_9_14 hx2, xf_9_15 hx2, xf_9_16 hx2, xf_5_1_45 hx2, xf_5_2_45 hx2, xf_5_1_50 hx2, xf_5_2_50 hx2, xf_5_1_55 hx2, xf_5_2_55 hx2, xf_5_1_60 hx2, xf_5_2_60 hx2, xk_18 hx2, xk_19 hx2, xk_21 hx2, xk_23 hx2, xk_25 hx2, xk_27 hx2, xk_29 hx2, xk_31 hx2, xk_33 hx2, xk_35 hx2, xk_37 hx2, xk_39 hx2, xk_41 hx2, xk_43 hx2, xk_45 hx2, xk_46 hx2, xk_48 hx2, xk_50 hx2, xk_51 hx2, xk_53 hx2, xk_55 hx2, xk_56 hx2, xk_58 hx2, xk_60 hx2, xk_61 hx2, xk_63 hx2, fx_n fsI, fx_d fsI, fx_i fsI, fx_p fsI, fx_k fsI, fx_kn fsI, fx_kd fsI, nb0, nb1]))
      refine Hx.bd (cf_setSign hp2 fsI hN) (fun σ3 v3 h3 => ?_)
      obtain ⟨hF3, sgI⟩ := h3
      have hp3 := hF3.hp
      have hx3 := hx2.kW hF3
      replace fsI := fsI.kW hF3
      try replace hL := hL.kW hF3 (by simp only [s1, s2, s3, sG, sR, sRc]; omega)
      try replace hR := hR.kW hF3 (by simp only [s1, s2, s3, sG, sR, sRc]; omega)
      try replace hZ := hZ.kW hF3 (by simp only [s1, s2, s3, sG, sR, sRc]; omega)
      try replace hN := hN.kW hF3 (by simp only [s1, s2, s3, sG, sR, sRc]; omega)
      have hG3 := hG2.tr0 hF3 (fun r _ hr => by simp only [s1, s2, s3, sG, sR, sRc] at hr ⊢; omega)
      (repeat (first | with_reducible refine hx_bs ?_ | with_reducible refine hx_cs ?_ | with_reducible refine hx_t ?_ | with_reducible refine hx_f ?_ | ((conv => arg 1; arg 1; simp (disch := first | assumption | omega) only [xf_9_0 hx3, xf_9_1 hx3, xf_9_2 hx3, xf_9_3 hx3, xf_9_4 hx3, xf_9_5 hx3, xf_9_6 hx3, xf_9_7 hx3, xf_9_8 hx3, xf_9_9 hx3, xf_9_10 hx3, xf_9_11 hx3, xf_9_12 hx3, xf_9_13 hx3, xf_9_14 hx3, xf_9_15 hx3, xf_9_16 hx3, xf_5_1_45 hx3, xf_5_2_45 hx3, xf_5_1_50 hx3, xf_5_2_50 hx3, xf_5_1_55 hx3, xf_5_2_55 hx3, xf_5_1_60 hx3, xf_5_2_60 hx3, xk_18 hx3, xk_19 hx3, xk_21 hx3, xk_23 hx3, xk_25 hx3, xk_27 hx3, xk_29 hx3, xk_31 hx3, xk_33 hx3, xk_35 hx3, xk_37 hx3, xk_39 hx3, xk_41 hx3, xk_43 hx3, xk_45 hx3, xk_46 hx3, xk_48 hx3, xk_50 hx3, xk_51 hx3, xk_53 hx3, xk_55 hx3, xk_56 hx3, xk_58 hx3, xk_60 hx3, xk_61 hx3, xk_63 hx3, sgI.2, fx_n fsI, fx_d fsI, fx_i fsI, fx_p fsI, fx_k fsI, fx_kn fsI, fx_kd fsI, nb0, nb1]); first | with_reducible refine hx_bs ?_ | with_reducible refine hx_cs ?_ | with_reducible refine hx_t ?_ | with_reducible refine hx_f ?_ | with_reducible refine hx_nm ?_))); (try (conv => arg 1; arg 1; simp (disch := first | assumption | omega) only [xf_9_0 hx3, xf_9_1 hx3, xf_9_2 hx3, xf_9_3 hx3, xf_9_4 hx3, xf_9_5 hx3, xf_9_6 hx3, xf_9_7 hx3, xf_9_8 hx3, xf_9_9 hx3, xf_9_10 hx3, xf_9_11 hx3, xf_9_12 hx3, xf_9_13 hx3, xf_9_14 hx3, xf_9_15 hx3, xf_9_16 hx3, xf_5_1_45 hx3, xf_5_2_45 hx3, xf_5_1_50 hx3, xf_5_2_50 hx3, xf_5_1_55 hx3, xf_5_2_55 hx3, xf_5_1_60 hx3, xf_5_2_60 hx3, xk_18 hx3, xk_19 hx3, xk_21 hx3, xk_23 hx3, xk_25 hx3, xk_27 hx3, xk_29 hx3, xk_31 hx3, xk_33 hx3, xk_35 hx3, xk_37 hx3, xk_39 hx3, xk_41 hx3, xk_43 hx3, xk_45 hx3, xk_46 hx3, xk_48 hx3, xk_50 hx3, xk_51 hx3, xk_53 hx3, xk_55 hx3, xk_56 hx3, xk_58 hx3, xk_60 hx3, xk_61 hx3, xk_63 hx3, sgI.2, fx_n fsI, fx_d fsI, fx_i fsI, fx_p fsI, fx_k fsI, fx_kn fsI, fx_kd fsI, nb0, nb1]))
      refine Hx.ret ⟨hG3, ?_, ?_⟩
      · unfold jnN jnS
        have k1 : ¬ s = 0 := by omega
        have k2 : ¬ t = 0 := by omega
        have k3 : ¬ s = t := by omega
        rw [if_neg c0, if_neg k1, if_neg k2, if_neg k3]
        simp only [if_pos c1]
        exact sgI
      · unfold jnN
        rw [if_neg c0, if_pos c1]
        exact hN
    · rw [hlt] at c1
      (repeat (first | with_reducible refine hx_bs ?_ | with_reducible refine hx_cs ?_ | with_reducible refine hx_t ?_ | with_reducible refine hx_f ?_ | ((conv => arg 1; arg 1; simp (disch := first | assumption | omega) only [xf_9_0 hx, xf_9_1 hx, xf_9_2 hx, xf_9_3 hx, xf_9_4 hx, xf_9_5 hx, xf_9_6 hx, xf_9_7 hx, xf_9_8 hx, xf_9_9 hx, xf_9_10 hx, xf_9_11 hx, xf_9_12 hx, xf_9_13 hx, xf_9_14 hx, xf_9_15 hx, xf_9_16 hx, xf_5_1_45 hx, xf_5_2_45 hx, xf_5_1_50 hx, xf_5_2_50 hx, xf_5_1_55 hx, xf_5_2_55 hx, xf_5_1_60 hx, xf_5_2_60 hx, xk_18 hx, xk_19 hx, xk_21 hx, xk_23 hx, xk_25 hx, xk_27 hx, xk_29 hx, xk_31 hx, xk_33 hx, xk_35 hx, xk_37 hx, xk_39 hx, xk_41 hx, xk_43 hx, xk_45 hx, xk_46 hx, xk_48 hx, xk_50 hx, xk_51 hx, xk_53 hx, xk_55 hx, xk_56 hx, xk_58 hx, xk_60 hx, xk_61 hx, xk_63 hx, fx_n fsI, fx_d fsI, fx_i fsI, fx_p fsI, fx_k fsI, fx_kn fsI, fx_kd fsI, nb0, nb1]); first | with_reducible refine hx_bs ?_ | with_reducible refine hx_cs ?_ | with_reducible refine hx_t ?_ | with_reducible refine hx_f ?_ | with_reducible refine hx_nm ?_))); (try (conv => arg 1; arg 1; simp (disch := first | assumption | omega) only [xf_9_0 hx, xf_9_1 hx, xf_9_2 hx, xf_9_3 hx, xf_9_4 hx, xf_9_5 hx, xf_9_6 hx, xf_9_7 hx, xf_9_8 hx, xf_9_9 hx, xf_9_10 hx, xf_9_11 hx, xf_9_12 hx, xf_9_13 hx, xf_9_14 hx, xf_9_15 hx, xf_9_16 hx, xf_5_1_45 hx, xf_5_2_45 hx, xf_5_1_50 hx, xf_5_2_50 hx, xf_5_1_55 hx, xf_5_2_55 hx, xf_5_1_60 hx, xf_5_2_60 hx, xk_18 hx, xk_19 hx, xk_21 hx, xk_23 hx, xk_25 hx, xk_27 hx, xk_29 hx, xk_31 hx, xk_33 hx, xk_35 hx, xk_37 hx, xk_39 hx, xk_41 hx, xk_43 hx, xk_45 hx, xk_46 hx, xk_48 hx, xk_50 hx, xk_51 hx, xk_53 hx, xk_55 hx, xk_56 hx, xk_58 hx, xk_60 hx, xk_61 hx, xk_63 hx, fx_n fsI, fx_d fsI, fx_i fsI, fx_p fsI, fx_k fsI, fx_kn fsI, fx_kd fsI, nb0, nb1]))
      refine Hx.bd (cw_setTo hp hZ hL (Or.inl hI) x10) (fun σ1 v1 h1 => ?_)
      obtain ⟨hF1, hN⟩ := h1
      have hp1 := hF1.hp
      have hx1 := hx.kW hF1
      replace fsI := fsI.kW hF1
      try replace hL := hL.kW hF1 (by simp only [s1, s2, s3, sG, sR, sRc]; omega)
      try replace hR := hR.kW hF1 (by simp only [s1, s2, s3, sG, sR, sRc]; omega)
      try replace hZ := hZ.kW hF1 (by simp only [s1, s2, s3, sG, sR, sRc]; omega)
      have hG1 := hG.tr0 hF1 (fun r _ hr => by simp only [s1, s2, s3, sG, sR, sRc] at hr ⊢; omega)
      (repeat (first | with_reducible refine hx_bs ?_ | with_reducible refine hx_cs ?_ | with_reducible refine hx_t ?_ | with_reducible refine hx_f ?_ | ((conv => arg 1; arg 1; simp (disch := first | assumption | omega) only [xf_9_0 hx1, xf_9_1 hx1, xf_9_2 hx1, xf_9_3 hx1, xf_9_4 hx1, xf_9_5 hx1, xf_9_6 hx1, xf_9_7 hx1, xf_9_8 hx1, xf_9_9 hx1, xf_9_10 hx1, xf_9_11 hx1, xf_9_12 hx1, xf_9_13 hx1, xf_9_14 hx1, xf_9_15 hx1, xf_9_16 hx1, xf_5_1_45 hx1, xf_5_2_45 hx1, xf_5_1_50 hx1, xf_5_2_50 hx1, xf_5_1_55 hx1, xf_5_2_55 hx1, xf_5_1_60 hx1, xf_5_2_60 hx1, xk_18 hx1, xk_19 hx1, xk_21 hx1, xk_23 hx1, xk_25 hx1, xk_27 hx1, xk_29 hx1, xk_31 hx1, xk_33 hx1, xk_35 hx1, xk_37 hx1, xk_39 hx1, xk_41 hx1, xk_43 hx1, xk_45 hx1, xk_46 hx1, xk_48 hx1, xk_50 hx1, xk_51 hx1, xk_53 hx1, xk_55 hx1, xk_56 hx1, xk_58 hx1, xk_60 hx1, xk_61 hx1, xk_63 hx1, fx_n fsI, fx_d fsI, fx_i fsI, fx_p fsI, fx_k fsI, fx_kn fsI, fx_kd fsI, nb0, nb1]); first | with_reducible refine hx_bs ?_ | with_reducible refine hx_cs ?_ | with_reducible refine hx_t ?_ | with_reducible refine hx_f ?_ | with_reducible refine hx_nm ?_))); (try (conv => arg 1; arg 1; simp (disch := first | assumption | omega) only [xf_9_0 hx1, xf_9_1 hx1, xf_9_2 hx1, xf_9_3 hx1, xf_9_4 hx1, xf_9_5 hx1, xf_9_6 hx1, xf_9_7 hx1, xf_9_8 hx1, xf_9_9 hx1, xf_9_10 hx1, xf_9_11 hx1, xf_9_12 hx1, xf_9_13 hx1, xf_9_14 hx1, xf_9_15 hx1, xf_9_16 hx1, xf_5_1_45 hx1, xf_5_2_45 hx1, xf_5_1_50 hx1, xf_5_2_50 hx1, xf_5_1_55 hx1, xf_5_2_55 hx1, xf_5_1_60 hx1, xf_5_2_60 hx1, xk_18 hx1, xk_19 hx1, xk_21 hx1, xk_23 hx1, xk_25 hx1, xk_27 hx1, xk_29 hx1, xk_31 hx1, xk_33 hx1, xk_35 hx1, xk_37 hx1, xk_39 hx1, xk_41 hx1, xk_43 hx1, xk_45 hx1, xk_46 hx1, xk_48 hx1, xk_50 hx1, xk_51 hx1, xk_53 hx1, xk_55 hx1, xk_56 hx1, xk_58 hx1, xk_60 hx1, xk_61 hx1, xk_63 hx1, fx_n fsI, fx_d fsI, fx_i fsI, fx_p fsI, fx_k fsI, fx_kn fsI, fx_kd fsI, nb0, nb1]))
      refine Hx.bd (cw_minus hp1 hN hR (by omega) (Nat.le_of_not_lt c1)) (fun σ2 v2 h2 => ?_)
      obtain ⟨hF2, hN⟩ := h2
      have hp2 := hF2.hp
      have hx2 := hx1.kW hF2
      replace fsI := fsI.kW hF2
      try replace hL := hL.kW hF2 (by simp only [s1, s2, s3, sG, sR, sRc]; omega)
      try replace hR := hR.kW hF2 (by simp only [s1, s2, s3, sG, sR, sRc]; omega)
      try replace hZ := hZ.kW hF2 (by simp only [s1, s2, s3, sG, sR, sRc]; omega)
      have hG2 := hG1.tr0 hF2 (fun r _ hr => by simp only [s1, s2, s3, sG, sR, sRc] at hr ⊢; omega)
      (repeat (first | with_reducible refine hx_bs ?_ | with_reducible refine hx_cs ?_ | with_reducible refine hx_t ?_ | with_reducible refine hx_f ?_ | ((conv => arg 1; arg 1; simp (disch := first | assumption | omega) only [xf_9_0 hx2, xf_9_1 hx2, xf_9_2 hx2, xf_9_3 hx2, xf_9_4 hx2, xf_9_5 hx2, xf_9_6 hx2, xf_9_7 hx2, xf_9_8 hx2, xf_9_9 hx2, xf_9_10 hx2, xf_9_11 hx2, xf_9_12 hx2, xf_9_13 hx2, xf_9_14 hx2, xf_9_15 hx2, xf_9_16 hx2, xf_5_1_45 hx2, xf_5_2_45 hx2, xf_5_1_50 hx2, xf_5_2_50 hx2, xf_5_1_55 hx2, xf_5_2_55 hx2, xf_5_1_60 hx2, xf_5_2_60 hx2, xk_18 hx2, xk_19 hx2, xk_21 hx2, xk_23 hx2, xk_25 hx2, xk_27 hx2, xk_29 hx2, xk_31 hx2, xk_33 hx2, xk_35 hx2, xk_37 hx2, xk_39 hx2, xk_41 hx2, xk_43 hx2, xk_45 hx2, xk_46 hx2, xk_48 hx2, xk_50 hx2, xk_51 hx2, xk_53 hx2, xk_55 hx2, xk_56 hx2, xk_58 hx2, xk_60 hx2, xk_61 hx2, xk_63 hx2, fx_n fsI, fx_d fsI, fx_i fsI, fx_p fsI, fx_k fsI, fx_kn fsI, fx_kd fsI, nb0, nb1]); first | with_reducible refine hx_bs ?_ | with_reducible refine hx_cs ?_ | with_reducible refine hx_t ?_ | with_reducible refine hx_f ?_ | with_reducible refine hx_nm ?_))); (try (conv => arg 1; arg 1; simp (disch := first | assumption | omega) only [xf_9_0 hx2, xf_9_1 hx2, xf_9_2 hx2, xf_9_3 hx2, xf_9_4 hx2, xf_9_5 hx2, xf_9_6 hx2, xf_9_7 hx2, xf_9_8 hx2, xf_9_9 hx2, xf_9_10 hx2, xf_9_11 hx2, xf_9_12 hx2, xf_9_13 hx2, xf_9_14 hx2, xf_9_15 hx2, xf_9_16 hx2, xf_5_1_45 hx2, xf_5_2_45 hx2, xf_5_1_50 hx2, xf_5_2_50 hx2, xf_5_1_55 hx2, xf_5_2_55 hx2, xf_5_1_60 hx2, xf_5_2_60 hx2, xk_18 hx2, xk_19 hx2, xk_21 hx2, xk_23 hx2, xk_25 hx2, xk_27 hx2, xk_29 hx2, xk_31 hx2, xk_33 hx2, xk_35 hx2, xk_37 hx2, xk_39 hx2, xk_41 hx2, xk_43 hx2, xk_45 hx2, xk_46 hx2, xk_48 hx2, xk_50 hx2, xk_51 hx2, xk_53 hx2, xk_55 hx2, xk_56 hx2, xk_58 hx2, xk_60 hx2, xk_61 hx2, xk_63 hx2, fx_n fsI, fx_d fsI, fx_i fsI, fx_p fsI, fx_k fsI, fx_kn fsI, fx_kd fsI, nb0, nb1]))
      refine Hx.bd (cf_setSign hp2 fsI hN) (fun σ3 v3 h3 => ?_)
      obtain ⟨hF3, sgI⟩ := h3
      have hp3 := hF3.hp
      have hx3 := hx2.kW hF3
      replace fsI := fsI.kW hF3
      try replace hL := hL.kW hF3 (by simp only [s1, s2, s3, sG, sR, sRc]; omega)
      try replace hR := hR.kW hF3 (by simp only [s1, s2, s3, sG, sR, sRc]; omega)
      try replace hZ := hZ.kW hF3 (by simp only [s1, s2, s3, sG, sR, sRc]; omega)
      try replace hN := hN.kW hF3 (by simp only [s1, s2, s3, sG, sR, sRc]; omega)
      have hG3 := hG2.tr0 hF3 (fun r _ hr => by simp only [s1, s2, s3, sG, sR, sRc] at hr ⊢; omega)
      (repeat (first | with_reducible refine hx_bs ?_ | with_reducible refine hx_cs ?_ | with_reducible refine hx_t ?_ | with_reducible refine hx_f ?_ | ((conv => arg 1; arg 1; simp (disch := first | assumption | omega) only [xf_9_0 hx3, xf_9_1 hx3, xf_9_2 hx3, xf_9_3 hx3, xf_9_4 hx3, xf_9_5 hx3, xf_9_6 hx3, xf_9_7 hx3, xf_9_8 hx3, xf_9_9 hx3, xf_9_10 hx3, xf_9_11 hx3, xf_9_12 hx3, xf_9_13 hx3, xf_9_14 hx3, xf_9_15 hx3, xf_9_16 hx3, xf_5_1_45 hx3, xf_5_2_45 hx3, xf_5_1_50 hx3, xf_5_2_50 hx3, xf_5_1_55 hx3, xf_5_2_55 hx3, xf_5_1_60 hx3, xf_5_2_60 hx3, xk_18 hx3, xk_19 hx3, xk_21 hx3, xk_23 hx3, xk_25 hx3, xk_27 hx3, xk_29 hx3, xk_31 hx3, xk_33 hx3, xk_35 hx3, xk_37 hx3, xk_39 hx3, xk_41 hx3, xk_43 hx3, xk_45 hx3, xk_46 hx3, xk_48 hx3, xk_50 hx3, xk_51 hx3, xk_53 hx3, xk_55 hx3, xk_56 hx3, xk_58 hx3, xk_60 hx3, xk_61 hx3, xk_63 hx3, sgI.2, fx_n fsI, fx_d fsI, fx_i fsI, fx_p fsI, fx_k fsI, fx_kn fsI, fx_kd fsI, nb0, nb1]); first | with_reducible refine hx_bs ?_ | with_reducible refine hx_cs ?_ | with_reducible refine hx_t ?_ | with_reducible refine hx_f ?_ | with_reducible refine hx_nm ?_))); (try (conv => arg 1; arg 1; simp (disch := first | assumption | omega) only [xf_9_0 hx3, xf_9_1 hx3, xf_9_2 hx3, xf_9_3 hx3, xf_9_4 hx3, xf_9_5 hx3, xf_9_6 hx3, xf_9_7 hx3, xf_9_8 hx3, xf_9_9 hx3, xf_9_10 hx3, xf_9_11 hx3, xf_9_12 hx3, xf_9_13 hx3, xf_9_14 hx3, xf_9_15 hx3, xf_9_16 hx3, xf_5_1_45 hx3, xf_5_2_45 hx3, xf_5_1_50 hx3, xf_5_2_50 hx3, xf_5_1_55 hx3, xf_5_2_55 hx3, xf_5_1_60 hx3, xf_5_2_60 hx3, xk_18 hx3, xk_19 hx3, xk_21 hx3, xk_23 hx3, xk_25 hx3, xk_27 hx3, xk_29 hx3, xk_31 hx3, xk_33 hx3, xk_35 hx3, xk_37 hx3, xk_39 hx3, xk_41 hx3, xk_43 hx3, xk_45 hx3, xk_46 hx3, xk_48 hx3, xk_50 hx3, xk_51 hx3, xk_53 hx3, xk_55 hx3, xk_56 hx3, xk_58 hx3, xk_60 hx3, xk_61 hx3, xk_63 hx3, sgI.2, fx_n fsI, fx_d fsI, fx_i fsI, fx_p fsI, fx_k fsI, fx_kn fsI, fx_kd fsI, nb0, nb1]))
      refine Hx.ret ⟨hG3, ?_, ?_⟩
      · unfold jnN jnS
        have k1 : ¬ s = 0 := by omega
        have k2 : ¬ t = 0 := by omega
        have k3 : ¬ s = t := by omega
        rw [if_neg c0, if_neg k1, if_neg k2, if_neg k3]
        simp only [if_neg c1]
        by_cases e : X - Y = 0
        · rw [if_pos e] at sgI
          rw [if_pos e]
          exact sgI
        · rw [if_neg e] at sgI
          rw [if_neg e, if_neg (by omega)]
          exact sgI
      · unfold jnN
        rw [if_neg c0, if_neg c1]
        exact hN
  · have c0 := Classical.not_not.mp (fun q => c (hst2.mpr q))
    (repeat (first | with_reducible refine hx_bs ?_ | with_reducible refine hx_cs ?_ | with_reducible refine hx_t ?_ | with_reducible refine hx_f ?_ | ((conv => arg 1; arg 1; simp (disch := first | assumption | omega) only [xf_9_0 hx, xf_9_1 hx, xf_9_2 hx, xf_9_3 hx, xf_9_4 hx, xf_9_5 hx, xf_9_6 hx, xf_9_7 hx, xf_9_8 hx, xf_9_9 hx, xf_9_10 hx, xf_9_11 hx, xf_9_12 hx, xf_9_13 hx, xf_9_14 hx, xf_9_15 hx, xf_9_16 hx, xf_5_1_45 hx, xf_5_2_45 hx, xf_5_1_50 hx, xf_5_2_50 hx, xf_5_1_55 hx, xf_5_2_55 hx, xf_5_1_60 hx, xf_5_2_60 hx, xk_18 hx, xk_19 hx, xk_21 hx, xk_23 hx, xk_25 hx, xk_27 hx, xk_29 hx, xk_31 hx, xk_33 hx, xk_35 hx, xk_37 hx, xk_39 hx, xk_41 hx, xk_43 hx, xk_45 hx, xk_46 hx, xk_48 hx, xk_50 hx, xk_51 hx, xk_53 hx, xk_55 hx, xk_56 hx, xk_58 hx, xk_60 hx, xk_61 hx, xk_63 hx, fx_n fsI, fx_d fsI, fx_i fsI, fx_p fsI, fx_k fsI, fx_kn fsI, fx_kd fsI, nb0, nb1]); first | with_reducible refine hx_bs ?_ | with_reducible refine hx_cs ?_ | with_reducible refine hx_t ?_ | with_reducible refine hx_f ?_ | with_reducible refine hx_nm ?_))); (try (conv => arg 1; arg 1; simp (disch := first | assumption | omega) only [xf_9_0 hx, xf_9_1 hx, xf_9_2 hx, xf_9_3 hx, xf_9_4 hx, xf_9_5 hx, xf_9_6 hx, xf_9_7 hx, xf_9_8 hx, xf_9_9 hx, xf_9_10 hx, xf_9_11 hx, xf_9_12 hx, xf_9_13 hx, xf_9_14 hx, xf_9_15 hx, xf_9_16 hx, xf_5_1_45 hx, xf_5_2_45 hx, xf_5_1_50 hx, xf_5_2_50 hx, xf_5_1_55 hx, xf_5_2_55 hx, xf_5_1_60 hx, xf_5_2_60 hx, xk_18 hx, xk_19 hx, xk_21 hx, xk_23 hx, xk_25 hx, xk_27 hx, xk_29 hx, xk_31 hx, xk_33 hx, xk_35 hx, xk_37 hx, xk_39 hx, xk_41 hx, xk_43 hx, xk_45 hx, xk_46 hx, xk_48 hx, xk_50 hx, xk_51 hx, xk_53 hx, xk_55 hx, xk_56 hx, xk_58 hx, xk_60 hx, xk_61 hx, xk_63 hx, fx_n fsI, fx_d fsI, fx_i fsI, fx_p fsI, fx_k fsI, fx_kn fsI, fx_kd fsI, nb0, nb1]))
    refine Hx.bd (cw_setTo hp hZ hL (Or.inl hI) x10) (fun σ1 v1 h1 => ?_)
    obtain ⟨hF1, hN⟩ := h1
    have hp1 := hF1.hp
    have hx1 := hx.kW hF1
    replace fsI := fsI.kW hF1
    try replace hL := hL.kW hF1 (by simp only [s1, s2, s3, sG, sR, sRc]; omega)
    try replace hR := hR.kW hF1 (by simp only [s1, s2, s3, sG, sR, sRc]; omega)
    try replace hZ := hZ.kW hF1 (by simp only [s1, s2, s3, sG, sR, sRc]; omega)
    have hG1 := hG.tr0 hF1 (fun r _ hr => by simp only [s1, s2, s3, sG, sR, sRc] at hr ⊢; omega)
    (repeat (first | with_reducible refine hx_bs ?_ | with_reducible refine hx_cs ?_ | with_reducible refine hx_t ?_ | with_reducible refine hx_f ?_ | ((conv => arg 1; arg 1; simp (disch := first | assumption | omega) only [xf_9_0 hx1, xf_9_1 hx1, xf_9_2 hx1, xf_9_3 hx1, xf_9_4 hx1, xf_9_5 hx1, xf_9_6 hx1, xf_9_7 hx1, xf_9_8 hx1, xf_9_9 hx1, xf_9_10 hx1, xf_9_11 hx1, xf_9_12 hx1, xf_9_13 hx1, xf_9_14 hx1, xf_9_15 hx1, xf_9_16 hx1, xf_5_1_45 hx1, xf_5_2_45 hx1, xf_5_1_50 hx1, xf_5_2_50 hx1, xf_5_1_55 hx1, xf_5_2_55 hx1, xf_5_1_60 hx1, xf_5_2_60 hx1, xk_18 hx1, xk_19 hx1, xk_21 hx1, xk_23 hx1, xk_25 hx1, xk_27 hx1, xk_29 hx1, xk_31 hx1, xk_33 hx1, xk_35 hx1, xk_37 hx1, xk_39 hx1, xk_41 hx1, xk_43 hx1, xk_45 hx1, xk_46 hx1, xk_48 hx1, xk_50 hx1, xk_51 hx1, xk_53 hx1, xk_55 hx1, xk_56 hx1, xk_58 hx1, xk_60 hx1, xk_61 hx1, xk_63 hx1, fx_n fsI, fx_d fsI, fx_i fsI, fx_p fsI, fx_k fsI, fx_kn fsI, fx_kd fsI, nb0, nb1]); first | with_reducible refine hx_bs ?_ | with_reducible refine hx_cs ?_ | with_reducible refine hx_t ?_ | with_reducible refine hx_f ?_ | with_reducible refine hx_nm ?_))); (try (conv => arg 1; arg 1; simp (disch := first | assumption | omega) only [xf_9_0 hx1, xf_9_1 hx1, xf_9_2 hx1, xf_9_3 hx1, xf_9_4 hx1, xf_9_5 hx1, xf_9_6 hx1, xf_9_7 hx1, xf_9_8 hx1, xf_9_9 hx1, xf_9_10 hx1, xf_9_11 hx1, xf_9_12 hx1, xf_9_13 hx1, xf_9_14 hx1, xf_9_15 hx1, xf_9_16 hx1, xf_5_1_45 hx1, xf_5_2_45 hx1, xf_5_1_50 hx1, xf_5_2_50 hx1, xf_5_1_55 hx1, xf_5_2_55 hx1, xf_5_1_60 hx1, xf_5_2_60 hx1, xk_18 hx1, xk_19 hx1, xk_21 hx1, xk_23 hx1, xk_25 hx1, xk_27 hx1, xk_29 hx1, xk_31 hx1, xk_33 hx1, xk_35 hx1, xk_37 hx1, xk_39 hx1, xk_41 hx1, xk_43 hx1, xk_45 hx1, xk_46 hx1, xk_48 hx1, xk_50 hx1, xk_51 hx1, xk_53 hx1, xk_55 hx1, xk_56 hx1, xk_58 hx1, xk_60 hx1, xk_61 hx1, xk_63 hx1, fx_n fsI, fx_d fsI, fx_i fsI, fx_p fsI, fx_k fsI, fx_kn fsI, fx_kd fsI, nb0, nb1]))
    refine Hx.bd (cw_plus hp1 hN hR hI (by omega) x9 y9) (fun σ2 v2 h2 => ?_)
    obtain ⟨hF2, hN⟩ := h2
    have hp2 := hF2.hp
    have hx2 := hx1.kW hF2
    replace fsI := fsI.kW hF2
    try replace hL := hL.kW hF2 (by simp only [s1, s2, s3, sG, sR, sRc]; omega)
    try replace hR := hR.kW hF2 (by simp only [s1, s2, s3, sG, sR, sRc]; omega)
    try replace hZ := hZ.kW hF2 (by simp only [s1, s2, s3, sG, sR, sRc]; omega)
    have hG2 := hG1.tr0 hF2 (fun r _ hr => by simp only [s1, s2, s3, sG, sR, sRc] at hr ⊢; omega)
    (repeat (first | with_reducible refine hx_bs ?_ | with_reducible refine hx_cs ?_ | with_reducible refine hx_t ?_ | with_reducible refine hx_f ?_ | ((conv => arg 1; arg 1; simp (disch := first | assumption | omega) only [xf_9_0 hx2, xf_9_1 hx2, xf_9_2 hx2, xf_9_3 hx2, xf_9_4 hx2, xf_9_5 hx2, xf_9_6 hx2, xf_9_7 hx2, xf_9_8 hx2, xf_9_9 hx2, xf_9_10 hx2, xf_9_11 hx2, xf_9_12 hx2, xf_9_13 hx2, xf_9_14 hx2, xf_9_15 hx2, xf_9_16 hx2, xf_5_1_45 hx2, xf_5_2_45 hx2, xf_5_1_50 hx2, xf_5_2_50 hx2, xf_5_1_55 hx2, xf_5_2_55 hx2, xf_5_1_60 hx2, xf_5_2_60 hx2, xk_18 hx2, xk_19 hx2, xk_21 hx2, xk_23 hx2, xk_25 hx2, xk_27 hx2, xk_29 hx2, xk_31 hx2, xk_33 hx2, xk_35 hx2, xk_37 hx2, xk_39 hx2, xk_41 hx2, xk_43 hx2, xk_45 hx2, xk_46 hx2, xk_48 hx2, xk_50 hx2, xk_51 hx2, xk_53 hx2, xk_55 hx2, xk_56 hx2, xk_58 hx2, xk_60 hx2, xk_61 hx2, xk_63 hx2, fx_n fsI, fx_d fsI, fx_i fsI, fx_p fsI, fx_k fsI, fx_kn fsI, fx_kd fsI, nb0, nb1]); first | with_reducible refine hx_bs ?_ | with_reducible refine hx_cs ?_ | with_reducible refine hx_t ?_ | with_reducible refine hx_f ?_ | with_reducible refine hx_nm ?_))); (try (conv => arg 1; arg 1; simp (disch := first | assumption | omega) only [xf_9_0 hx2, xf_9_1 hx2, xf_9_2 hx2, xf_9_3 hx2, xf_9_4 hx2, xf_9_5 hx2, xf_9_6 hx2, xf_9_7 hx2, xf_9_8 hx2, xf_9_9 hx2, xf_9_10 hx2, xf_9_11 hx2, xf_9_12 hx2, xf_9_13 hx2, xf_9_14 hx2, xf_9_15 hx2, xf_9_16 hx2, xf_5_1_45 hx2, xf_5_2_45 hx2, xf_5_1_50 hx2, xf_5_2_50 hx2, xf_5_1_55 hx2, xf_5_2_55 hx2, xf_5_1_60 hx2, xf_5_2_60 hx2, xk_18 hx2, xk_19 hx2, xk_21 hx2, xk_23 hx2, xk_25 hx2, xk_27 hx2, xk_29 hx2, xk_31 hx2, xk_33 hx2, xk_35 hx2, xk_37 hx2, xk_39 hx2, xk_41 hx2, xk_43 hx2, xk_45 hx2, xk_46 hx2, xk_48 hx2, xk_50 hx2, xk_51 hx2, xk_53 hx2, xk_55 hx2, xk_56 hx2, xk_58 hx2, xk_60 hx2, xk_61 hx2, xk_63 hx2, fx_n fsI, fx_d fsI, fx_i fsI, fx_p fsI, fx_k fsI, fx_kn fsI, fx_kd fsI, nb0, nb1]))
    have eN : jnN s t X Y = X + Y := by unfold jnN; rw [if_pos c0]
    rw [eN]
    refine Hx.cs (fun c3 => ?_) (fun c3 => ?_)
    · rw [show nI 0 = iz (0 : Int) from rfl, iz_eq (by omega) (by omega) (by omega) (by omega)] at c3
      rw [n_fX5_join_51]
      (repeat (first | with_reducible refine hx_bs ?_ | with_reducible refine hx_cs ?_ | with_reducible refine hx_t ?_ | with_reducible refine hx_f ?_ | ((conv => arg 1; arg 1; simp (disch := first | assumption | omega) only [xf_9_0 hx2, xf_9_1 hx2, xf_9_2 hx2, xf_9_3 hx2, xf_9_4 hx2, xf_9_5 hx2, xf_9_6 hx2, xf_9_7 hx2, xf_9_8 hx2, xf_9_9 hx2, xf_9_10 hx2, xf_9_11 hx2, xf_9_12 hx2, xf_9_13 hx2, xf_9_14 hx2, xf_9_15 hx2, xf_9_16 hx2, xf_5_1_45 hx2, xf_5_2_45 hx2, xf_5_1_50 hx2, xf_5_2_50 hx2, xf_5_1_55 hx2, xf_5_2_55 hx2, xf_5_1_60 hx2, xf_5_2_60 hx2, xk_18 hx2, xk_19 hx2, xk_21 hx2, xk_23 hx2, xk_25 hx2, xk_27 hx2, xk_29 hx2, xk_31 hx2, xk_33 hx2, xk_35 hx2, xk_37 hx2, xk_39 hx2, xk_41 hx2, xk_43 hx2, xk_45 hx2, xk_46 hx2, xk_48 hx2, xk_50 hx2, xk_51 hx2, xk_53 hx2, xk_55 hx2, xk_56 hx2, xk_58 hx2, xk_60 hx2, xk_61 hx2, xk_63 hx2, fx_n fsI, fx_d fsI, fx_i fsI, fx_p fsI, fx_k fsI, fx_kn fsI, fx_kd fsI, nb0, nb1]); first | with_reducible refine hx_bs ?_ | with_reducible refine hx_cs ?_ | with_reducible refine hx_t ?_ | with_reducible refine hx_f ?_ | with_reducible refine hx_nm ?_))); (try (conv => arg 1; arg 1; simp (disch := first | assumption | omega) only [xf_9_0 hx2, xf_9_1 hx2, xf_9_2 hx2, xf_9_3 hx2, xf_9_4 hx2, xf_9_5 hx2, xf_9_6 hx2, xf_9_7 hx2, xf_9_8 hx2, xf_9_9 hx2, xf_9_10 hx2, xf_9_11 hx2, xf_9_12 hx2, xf_9_13 hx2, xf_9_14 hx2, xf_9_15 hx2, xf_9_16 hx2, xf_5_1_45 hx2, xf_5_2_45 hx2, xf_5_1_50 hx2, xf_5_2_50 hx2, xf_5_1_55 hx2, xf_5_2_55 hx2, xf_5_1_60 hx2, xf_5_2_60 hx2, xk_18 hx2, xk_19 hx2, xk_21 hx2, xk_23 hx2, xk_25 hx2, xk_27 hx2, xk_29 hx2, xk_31 hx2, xk_33 hx2, xk_35 hx2, xk_37 hx2, xk_39 hx2, xk_41 hx2, xk_43 hx2, xk_45 hx2, xk_46 hx2, xk_48 hx2, xk_50 hx2, xk_51 hx2, xk_53 hx2, xk_55 hx2, xk_56 hx2, xk_58 hx2, xk_60 hx2, xk_61 hx2, xk_63 hx2, fx_n fsI, fx_d fsI, fx_i fsI, fx_p fsI, fx_k fsI, fx_kn fsI, fx_kd fsI, nb0, nb1]))
      refine Hx.bd (cf_setSign hp2 fsI hN) (fun σ3 v3 h3 => ?_)
      obtain ⟨hF3, sgI⟩ := h3
      have hp3 := hF3.hp
      have hx3 := hx2.kW hF3
      replace fsI := fsI.kW hF3
      try replace hL := hL.kW hF3 (by simp only [s1, s2, s3, sG, sR, sRc]; omega)
      try replace hR := hR.kW hF3 (by simp only [s1, s2, s3, sG, sR, sRc]; omega)
      try replace hZ := hZ.kW hF3 (by simp only [s1, s2, s3, sG, sR, sRc]; omega)
      try replace hN := hN.kW hF3 (by simp only [s1, s2, s3, sG, sR, sRc]; omega)
      have hG3 := hG2.tr0 hF3 (fun r _ hr => by simp only [s1, s2, s3, sG, sR, sRc] at hr ⊢; omega)
      (repeat (first | with_reducible refine hx_bs ?_ | with_reducible refine hx_cs ?_ | with_reducible refine hx_t ?_ | with_reducible refine hx_f ?_ | ((conv => arg 1; arg 1; simp (disch := first | assumption | omega) only [xf_9_0 hx3, xf_9_1 hx3, xf_9_2 hx3, xf_9_3 hx3, xf_9_4 hx3, xf_9_5 hx3, xf_9_6 hx3, xf_9_7 hx3, xf_9_8 hx3, xf_9_9 hx3, xf_9_10 hx3, xf_9_11 hx3, xf_9_12 hx3, xf_9_13 hx3, xf_9_14 hx3, xf_9_15 hx3, xf_9_16 hx3, xf_5_1_45 hx3, xf_5_2_45 hx3, xf_5_1_50 hx3, xf_5_2_50 hx3, xf_5_1_55 hx3, xf_5_2_55 hx3, xf_5_1_60 hx3, xf_5_2_60 hx3, xk_18 hx3, xk_19 hx3, xk_21 hx3, xk_23 hx3, xk_25 hx3, xk_27 hx3, xk_29 hx3, xk_31 hx3, xk_33 hx3, xk_35 hx3, xk_37 hx3, xk_39 hx3, xk_41 hx3, xk_43 hx3, xk_45 hx3, xk_46 hx3, xk_48 hx3, xk_50 hx3, xk_51 hx3, xk_53 hx3, xk_55 hx3, xk_56 hx3, xk_58 hx3, xk_60 hx3, xk_61 hx3, xk_63 hx3, sgI.2, fx_n fsI, fx_d fsI, fx_i fsI, fx_p fsI, fx_k fsI, fx_kn fsI, fx_kd fsI, nb0, nb1]); first | with_reducible refine hx_bs ?_ | with_reducible refine hx_cs ?_ | with_reducible refine hx_t ?_ | with_reducible refine hx_f ?_ | with_reducible refine hx_nm ?_))); (try (conv => arg 1; arg 1; simp (disch := first | assumption | omega) only [xf_9_0 hx3, xf_9_1 hx3, xf_9_2 hx3, xf_9_3 hx3, xf_9_4 hx3, xf_9_5 hx3, xf_9_6 hx3, xf_9_7 hx3, xf_9_8 hx3, xf_9_9 hx3, xf_9_10 hx3, xf_9_11 hx3, xf_9_12 hx3, xf_9_13 hx3, xf_9_14 hx3, xf_9_15 hx3, xf_9_16 hx3, xf_5_1_45 hx3, xf_5_2_45 hx3, xf_5_1_50 hx3, xf_5_2_50 hx3, xf_5_1_55 hx3, xf_5_2_55 hx3, xf_5_1_60 hx3, xf_5_2_60 hx3, xk_18 hx3, xk_19 hx3, xk_21 hx3, xk_23 hx3, xk_25 hx3, xk_27 hx3, xk_29 hx3, xk_31 hx3, xk_33 hx3, xk_35 hx3, xk_37 hx3, xk_39 hx3, xk_41 hx3, xk_43 hx3, xk_45 hx3, xk_46 hx3, xk_48 hx3, xk_50 hx3, xk_51 hx3, xk_53 hx3, xk_55 hx3, xk_56 hx3, xk_58 hx3, xk_60 hx3, xk_61 hx3, xk_63 hx3, sgI.2, fx_n fsI, fx_d fsI, fx_i fsI, fx_p fsI, fx_k fsI, fx_kn fsI, fx_kd fsI, nb0, nb1]))
      have eS : jnS s t X Y = t := by unfold jnS; rw [if_pos c3]
      rw [eS]
      exact Hx.ret ⟨hG3, sgI, hN⟩
    · rw [show nI 0 = iz (0 : Int) from rfl, iz_eq (by omega) (by omega) (by omega) (by omega)] at c3
      rw [n_fX5_join_51]
      (repeat (first | with_reducible refine hx_bs ?_ | with_reducible refine hx_cs ?_ | with_reducible refine hx_t ?_ | with_reducible refine hx_f ?_ | ((conv => arg 1; arg 1; simp (disch := first | assumption | omega) only [xf_9_0 hx2, xf_9_1 hx2, xf_9_2 hx2, xf_9_3 hx2, xf_9_4 hx2, xf_9_5 hx2, xf_9_6 hx2, xf_9_7 hx2, xf_9_8 hx2, xf_9_9 hx2, xf_9_10 hx2, xf_9_11 hx2, xf_9_12 hx2, xf_9_13 hx2, xf_9_14 hx2, xf_9_15 hx2, xf_9_16 hx2, xf_5_1_45 hx2, xf_5_2_45 hx2, xf_5_1_50 hx2, xf_5_2_50 hx2, xf_5_1_55 hx2, xf_5_2_55 hx2, xf_5_1_60 hx2, xf_5_2_60 hx2, xk_18 hx2, xk_19 hx2, xk_21 hx2, xk_23 hx2, xk_25 hx2, xk_27 hx2, xk_29 hx2, xk_31 hx2, xk_33 hx2, xk_35 hx2, xk_37 hx2, xk_39 hx2, xk_41 hx2, xk_43 hx2, xk_45 hx2, xk_46 hx2, xk_48 hx2, xk_50 hx2, xk_51 hx2, xk_53 hx2, xk_55 hx2, xk_56 hx2, xk_58 hx2, xk_60 hx2, xk_61 hx2, xk_63 hx2, fx_n fsI, fx_d fsI, fx_i fsI, fx_p fsI, fx_k fsI, fx_kn fsI, fx_kd fsI, nb0, nb1]); first | with_reducible refine hx_bs ?_ | with_reducible refine hx_cs ?_ | with_reducible refine hx_t ?_ | with_reducible refine hx_f ?_ | with_reducible refine hx_nm ?_))); (try (conv => arg 1; arg 1; simp (disch := first | assumption | omega) only [xf_9_0 hx2, xf_9_1 hx2, xf_9_2 hx2, xf_9_3 hx2, xf_9_4 hx2, xf_9_5 hx2, xf_9_6 hx2, xf_9_7 hx2, xf_9_8 hx2, xf_9_9 hx2, xf_9_10 hx2, xf_9_11 hx2, xf_9_12 hx2, xf_9_13 hx2, xf_9_14 hx2, xf_9_15 hx2, xf_9_16 hx2, xf_5_1_45 hx2, xf_5_2_45 hx2, xf_5_1_50 hx2, xf_5_2_50 hx2, xf_5_1_55 hx2, xf_5_2_55 hx2, xf_5_1_60 hx2, xf_5_2_60 hx2, xk_18 hx2, xk_19 hx2, xk_21 hx2, xk_23 hx2, xk_25 hx2, xk_27 hx2, xk_29 hx2, xk_31 hx2, xk_33 hx2, xk_35 hx2, xk_37 hx2, xk_39 hx2, xk_41 hx2, xk_43 hx2, xk_45 hx2, xk_46 hx2, xk_48 hx2, xk_50 hx2, xk_51 hx2, xk_53 hx2, xk_55 hx2, xk_56 hx2, xk_58 hx2, xk_60 hx2, xk_61 hx2, xk_63 hx2, fx_n fsI, fx_d fsI, fx_i fsI, fx_p fsI, fx_k fsI, fx_kn fsI, fx_kd fsI, nb0, nb1]))
      refine Hx.bd (cf_setSign hp2 fsI hN) (fun σ3 v3 h3 => ?_)
      obtain ⟨hF3, sgI⟩ := h3
      have hp3 := hF3.hp
      have hx3 := hx2.kW hF3
      replace fsI := fsI.kW hF3
      try replace hL := hL.kW hF3 (by simp only [s1, s2, s3, sG, sR, sRc]; omega)
      try replace hR := hR.kW hF3 (by simp only [s1, s2, s3, sG, sR, sRc]; omega)
      try replace hZ := hZ.kW hF3 (by simp only [s1, s2, s3, sG, sR, sRc]; omega)
      try replace hN := hN.kW hF3 (by simp only [s1, s2, s3, sG, sR, sRc]; omega)
      have hG3 := hG2.tr0 hF3 (fun r _ hr => by simp only [s1, s2, s3, sG, sR, sRc] at hr ⊢; omega)
      (repeat (first | with_reducible refine hx_bs ?_ | with_reducible refine hx_cs ?_ | with_reducible refine hx_t ?_ | with_reducible refine hx_f ?_ | ((conv => arg 1; arg 1; simp (disch := first | assumption | omega) only [xf_9_0 hx3, xf_9_1 hx3, xf_9_2 hx3, xf_9_3 hx3, xf_9_4 hx3, xf_9_5 hx3, xf_9_6 hx3, xf_9_7 hx3, xf_9_8 hx3, xf_9_9 hx3, xf_9_10 hx3, xf_9_11 hx3, xf_9_12 hx3, xf_9_13 hx3, xf_9_14 hx3, xf_9_15 hx3, xf_9_16 hx3, xf_5_1_45 hx3, xf_5_2_45 hx3, xf_5_1_50 hx3, xf_5_2_50 hx3, xf_5_1_55 hx3, xf_5_2_55 hx3, xf_5_1_60 hx3, xf_5_2_60 hx3, xk_18 hx3, xk_19 hx3, xk_21 hx3, xk_23 hx3, xk_25 hx3, xk_27 hx3, xk_29 hx3, xk_31 hx3, xk_33 hx3, xk_35 hx3, xk_37 hx3, xk_39 hx3, xk_41 hx3, xk_43 hx3, xk_45 hx3, xk_46 hx3, xk_48 hx3, xk_50 hx3, xk_51 hx3, xk_53 hx3, xk_55 hx3, xk_56 hx3, xk_58 hx3, xk_60 hx3, xk_61 hx3, xk_63 hx3, sgI.2, fx_n fsI, fx_d fsI, fx_i fsI, fx_p fsI, fx_k fsI, fx_kn fsI, fx_kd fsI, nb0, nb1]); first | with_reducible refine hx_bs ?_ | with_reducible refine hx_cs ?_ | with_reducible refine hx_t ?_ | with_reducible refine hx_f ?_ | with_reducible refine hx_nm ?_))); (try (conv => arg 1; arg 1; simp (disch := first | assumption | omega) only [xf_9_0 hx3, xf_9_1 hx3, xf_9_2 hx3, xf_9_3 hx3, xf_9_4 hx3, xf_9_5 hx3, xf_9_6 hx3, xf_9_7 hx3, xf_9_8 hx3, xf_9_9 hx3, xf_9_10 hx3, xf_9_11 hx3, xf_9_12 hx3, xf_9_13 hx3, xf_9_14 hx3, xf_9_15 hx3, xf_9_16 hx3, xf_5_1_45 hx3, xf_5_2_45 hx3, xf_5_1_50 hx3, xf_5_2_50 hx3, xf_5_1_55 hx3, xf_5_2_55 hx3, xf_5_1_60 hx3, xf_5_2_60 hx3, xk_18 hx3, xk_19 hx3, xk_21 hx3, xk_23 hx3, xk_25 hx3, xk_27 hx3, xk_29 hx3, xk_31 hx3, xk_33 hx3, xk_35 hx3, xk_37 hx3, xk_39 hx3, xk_41 hx3, xk_43 hx3, xk_45 hx3, xk_46 hx3, xk_48 hx3, xk_50 hx3, xk_51 hx3, xk_53 hx3, xk_55 hx3, xk_56 hx3, xk_58 hx3, xk_60 hx3, xk_61 hx3, xk_63 hx3, sgI.2, fx_n fsI, fx_d fsI, fx_i fsI, fx_p fsI, fx_k fsI, fx_kn fsI, fx_kd fsI, nb0, nb1]))
      have eS : jnS s t X Y = s := by
        unfold jnS
        rw [if_neg c3]
        by_cases e : t = 0
        · rw [if_pos e]
        · rw [if_neg e, if_pos (by omega)]
      rw [eS]
      exact Hx.ret ⟨hG3, sgI, hN⟩
/-- the class' sum of two fractions in lowest terms -/
theorem cr_add {x a b into n d n' d' lf : Nat} {s t u : Int} {σ : St} (hp : HP (PX x) σ) (hx : XS σ x) (hA : FX σ a s n d) (hB : FX σ b t n' d') (fsI : FS σ into) (hI : into + 1 ∈ PX x) (hI3 : into + 3 ∈ PX x) (hia : into ≠ a) (hib : into ≠ b) (hax : x + 40 < a ∨ a + 3 < x + 19) (hbx : x + 40 < b ∨ b + 3 < x + 19) (hix : x + 40 < into)
    (hn : sml (n) 200) (hd : sml (d) 200) (hn' : sml (n') 200) (hd' : sml (d') 200) (hs : -1 ≤ s ∧ s ≤ 1) (ht : -1 ≤ t ∧ t ≤ 1) (h0 : 0 < d) (h0' : 0 < d') (c1 : Nat.gcd n d = 1) (c2 : Nat.gcd n' d' = 1) (hlf : lf ≤ 1) (hu : u = if lf = 0 then t else -t) :
    Hx (fX5_add σ (x + 18) a b (nI lf) into) (fun σ' _ => cW x (sR x into) 0 0 σ σ' ∧ ∃ q : Qv, q = qmk (jnS s u (n * d') (n' * d)) (jnN s u (n * d') (n' * d)) (d * d') ∧ FX σ' into q.1 q.2.1 q.2.2) := by
  obtain ⟨fsA, sgA, hN, hD⟩ := hA
  obtain ⟨fsB, sgB, hM, hE⟩ := hB
  have nea := fsI.ne fsA hia
  have neb := fsI.ne fsB hib
  obtain ⟨z, hZ⟩ := hp.2 _ hI
  have hgb := bp_gcd hd hd'
  have hTl := jnN_le s u (n * (d' / Nat.gcd d d')) (n' * (d / Nat.gcd d d'))
  have b1 := bp_mul hn (bp_dvd (Nat.gcd d d') hd')
  have b2 := bp_mul hn' (bp_dvd (Nat.gcd d d') hd)
  have hT := Nat.lt_of_le_of_lt hTl (bp_add b1 b2)
  have key := add_qmk (s := s) (t := u) h0 h0' c1 c2 _ _ _ rfl rfl rfl
  have hub : -1 ≤ u ∧ u ≤ 1 := by rw [hu]; split <;> omega
  rw [n_fX5_add]
  have hG := cW.rf (S := (sR x into)) hp
  (repeat (first | with_reducible refine hx_bs ?_ | with_reducible refine hx_cs ?_ | with_reducible refine hx_t ?_ | with_reducible refine hx_f ?_ | ((conv => arg 1; arg 1; simp (disch := first | assumption | omega) only [xf_9_0 hx, xf_9_1 hx, xf_9_2 hx, xf_9_3 hx, xf_9_4 hx, xf_9_5 hx, xf_9_6 hx, xf_9_7 hx, xf_9_8 hx, xf_9_9 hx, xf_9_10 hx, xf_9_11 hx, xf_9_12 hx, xf_9_13 hx, xf_9_14 hx, xf_9_15 hx, xf_9_16 hx, xf_5_1_45 hx, xf_5_2_45 hx, xf_5_1_50 hx, xf_5_2_50 hx, xf_5_1_55 hx, xf_5_2_55 hx, xf_5_1_60 hx, xf_5_2_60 hx, xk_18 hx, xk_19 hx, xk_21 hx, xk_23 hx, xk_25 hx, xk_27 hx, xk_29 hx, xk_31 hx, xk_33 hx, xk_35 hx, xk_37 hx, xk_39 hx, xk_41 hx, xk_43 hx, xk_45 hx, xk_46 hx, xk_48 hx, xk_50 hx, xk_51 hx, xk_53 hx, xk_55 hx, xk_56 hx, xk_58 hx, xk_60 hx, xk_61 hx, xk_63 hx, sgA.2, sgB.2, fx_n fsA, fx_d fsA, fx_i fsA, fx_p fsA, fx_k fsA, fx_kn fsA, fx_kd fsA, fx_n fsB, fx_d fsB, fx_i fsB, fx_p fsB, fx_k fsB, fx_kn fsB, fx_kd fsB, fx_n fsI, fx_d fsI, fx_i fsI, fx_p fsI, fx_k fsI, fx_kn fsI, fx_kd fsI, nb0, nb1]); first | with_reducible refine hx_bs ?_ | with_reducible refine hx_cs ?_ | with_reducible refine hx_t ?_ | with_reducible refine hx_f ?_ | with_reducible refine hx_nm ?_))); (try (conv => arg 1; arg 1; simp (disch := first | assumption | omega) only [xf_9_0 hx, xf_9_1 hx, xf_9_2 hx, xf_9_3 hx, xf_9_4 hx, xf_9_5 hx, xf_9_6 hx, xf_9_7 hx, xf_9_8 hx, xf_9_9 hx, xf_9_10 hx, xf_9_11 hx, xf_9_12 hx, xf_9_13 hx, xf_9_14 hx, xf_9_15 hx, xf_9_16 hx, xf_5_1_45 hx, xf_5_2_45 hx, xf_5_1_50 hx, xf_5_2_50 hx, xf_5_1_55 hx, xf_5_2_55 hx, xf_5_1_60 hx, xf_5_2_60 hx, xk_18 hx, xk_19 hx, xk_21 hx, xk_23 hx, xk_25 hx, xk_27 hx, xk_29 hx, xk_31 hx, xk_33 hx, xk_35 hx, xk_37 hx, xk_39 hx, xk_41 hx, xk_43 hx, xk_45 hx, xk_46 hx, xk_48 hx, xk_50 hx, xk_51 hx, xk_53 hx, xk_55 hx, xk_56 hx, xk_58 hx, xk_60 hx, xk_61 hx, xk_63 hx, sgA.2, sgB.2, fx_n fsA, fx_d fsA, fx_i fsA, fx_p fsA, fx_k fsA, fx_kn fsA, fx_kd fsA, fx_n fsB, fx_d fsB, fx_i fsB, fx_p fsB, fx_k fsB, fx_kn fsB, fx_kd fsB, fx_n fsI, fx_d fsI, fx_i fsI, fx_p fsI, fx_k fsI, fx_kn fsI, fx_kd fsI, nb0, nb1]))
  refine Hx.bd (cw_gcd hp hx hD hE (show x + 29 ∈ PX x by simp) (by omega) (by omega) (lt_bp hd (by omega)) (lt_bp hd' (by omega))) (fun σ1 v1 h1 => ?_)
  obtain ⟨hF1, hC⟩ := h1
  have hp1 := hF1.hp
  have hx1 := hx.kW hF1
  replace fsA := fsA.kW hF1
  replace fsB := fsB.kW hF1
  replace fsI := fsI.kW hF1
  try replace sgA := sgA.kW hF1 (by simp only [s1, s2, s3, sG, sR, sRc]; omega)
  try replace sgB := sgB.kW hF1 (by simp only [s1, s2, s3, sG, sR, sRc]; omega)
  try replace hN := hN.kW hF1 (by simp only [s1, s2, s3, sG, sR, sRc]; omega)
  try replace hD := hD.kW hF1 (by simp only [s1, s2, s3, sG, sR, sRc]; omega)
  try replace hM := hM.kW hF1 (by simp only [s1, s2, s3, sG, sR, sRc]; omega)
  try replace hE := hE.kW hF1 (by simp only [s1, s2, s3, sG, sR, sRc]; omega)
  have hG1 := hG.tr0 hF1 (fun r _ hr => by simp only [s1, s2, s3, sG, sR, sRc] at hr ⊢; omega)
  (repeat (first | with_reducible refine hx_bs ?_ | with_reducible refine hx_cs ?_ | with_reducible refine hx_t ?_ | with_reducible refine hx_f ?_ | ((conv => arg 1; arg 1; simp (disch := first | assumption | omega) only [xf_9_0 hx1, xf_9_1 hx1, xf_9_2 hx1, xf_9_3 hx1, xf_9_4 hx1, xf_9_5 hx1, xf_9_6 hx1, xf_9_7 hx1, xf_9_8 hx1, xf_9_9 hx1, xf_9_10 hx1, xf_9_11 hx1, xf_9_12 hx1, xf_9_13 hx1, xf_9_14 hx1, xf_9_15 hx1, xf_9_16 hx1, xf_5_1_45 hx1, xf_5_2_45 hx1, xf_5_1_50 hx1, xf_5_2_50 hx1, xf_5_1_55 hx1, xf_5_2_55 hx1, xf_5_1_60 hx1, xf_5_2_60 hx1, xk_18 hx1, xk_19 hx1, xk_21 hx1, xk_23 hx1, xk_25 hx1, xk_27 hx1, xk_29 hx1, xk_31 hx1, xk_33 hx1, xk_35 hx1, xk_37 hx1, xk_39 hx1, xk_41 hx1, xk_43 hx1, xk_45 hx1, xk_46 hx1, xk_48 hx1, xk_50 hx1, xk_51 hx1, xk_53 hx1, xk_55 hx1, xk_56 hx1, xk_58 hx1, xk_60 hx1, xk_61 hx1, xk_63 hx1, sgA.2, sgB.2, fx_n fsA, fx_d fsA, fx_i fsA, fx_p fsA, fx_k fsA, fx_kn fsA, fx_kd fsA, fx_n fsB, fx_d fsB, fx_i fsB, fx_p fsB, fx_k fsB, fx_kn fsB, fx_kd fsB, fx_n fsI, fx_d fsI, fx_i fsI, fx_p fsI, fx_k fsI, fx_kn fsI, fx_kd fsI, nb0, nb1]); first | with_reducible refine hx_bs ?_ | with_reducible refine hx_cs ?_ | with_reducible refine hx_t ?_ | with_reducible refine hx_f ?_ | with_reducible refine hx_nm ?_))); (try (conv => arg 1; arg 1; simp (disch := first | assumption | omega) only [xf_9_0 hx1, xf_9_1 hx1, xf_9_2 hx1, xf_9_3 hx1, xf_9_4 hx1, xf_9_5 hx1, xf_9_6 hx1, xf_9_7 hx1, xf_9_8 hx1, xf_9_9 hx1, xf_9_10 hx1, xf_9_11 hx1, xf_9_12 hx1, xf_9_13 hx1, xf_9_14 hx1, xf_9_15 hx1, xf_9_16 hx1, xf_5_1_45 hx1, xf_5_2_45 hx1, xf_5_1_50 hx1, xf_5_2_50 hx1, xf_5_1_55 hx1, xf_5_2_55 hx1, xf_5_1_60 hx1, xf_5_2_60 hx1, xk_18 hx1, xk_19 hx1, xk_21 hx1, xk_23 hx1, xk_25 hx1, xk_27 hx1, xk_29 hx1, xk_31 hx1, xk_33 hx1, xk_35 hx1, xk_37 hx1, xk_39 hx1, xk_41 hx1, xk_43 hx1, xk_45 hx1, xk_46 hx1, xk_48 hx1, xk_50 hx1, xk_51 hx1, xk_53 hx1, xk_55 hx1, xk_56 hx1, xk_58 hx1, xk_60 hx1, xk_61 hx1, xk_63 hx1, sgA.2, sgB.2, fx_n fsA, fx_d fsA, fx_i fsA, fx_p fsA, fx_k fsA, fx_kn fsA, fx_kd fsA, fx_n fsB, fx_d fsB, fx_i fsB, fx_p fsB, fx_k fsB, fx_kn fsB, fx_kd fsB, fx_n fsI, fx_d fsI, fx_i fsI, fx_p fsI, fx_k fsI, fx_kn fsI, fx_kd fsI, nb0, nb1]))
  refine Hx.bd (cw_divide hp1 hx1 hD hC (show x + 33 ∈ PX x by simp) (show x + 23 ∈ PX x by simp) (lt_bp hd (by omega)) (by omega)) (fun σ2 v2 h2 => ?_)
  obtain ⟨hF2, hP1, _⟩ := h2
  have hp2 := hF2.hp
  have hx2 := hx1.kW hF2
  replace fsA := fsA.kW hF2
  replace fsB := fsB.kW hF2
  replace fsI := fsI.kW hF2
  try replace sgA := sgA.kW hF2 (by simp only [s1, s2, s3, sG, sR, sRc]; omega)
  try replace sgB := sgB.kW hF2 (by simp only [s1, s2, s3, sG, sR, sRc]; omega)
  try replace hN := hN.kW hF2 (by simp only [s1, s2, s3, sG, sR, sRc]; omega)
  try replace hD := hD.kW hF2 (by simp only [s1, s2, s3, sG, sR, sRc]; omega)
  try replace hM := hM.kW hF2 (by simp only [s1, s2, s3, sG, sR, sRc]; omega)
  try replace hE := hE.kW hF2 (by simp only [s1, s2, s3, sG, sR, sRc]; omega)
  try replace hC := hC.kW hF2 (by simp only [s1, s2, s3, sG, sR, sRc]; omega)
  have hG2 := hG1.tr0 hF2 (fun r _ hr => by simp only [s1, s2, s3, sG, sR, sRc] at hr ⊢; omega)
  (repeat (first | with_reducible refine hx_bs ?_ | with_reducible refine hx_cs ?_ | with_reducible refine hx_t ?_ | with_reducible refine hx_f ?_ | ((conv => arg 1; arg 1; simp (disch := first | assumption | omega) only [xf_9_0 hx2, xf_9_1 hx2, xf_9_2 hx2, xf_9_3 hx2, xf_9_4 hx2, xf_9_5 hx2, xf_9_6 hx2, xf_9_7 hx2, xf_9_8 hx2, xf_9_9 hx2, xf_9_10 hx2, xf_9_11 hx2, xf_9_12 hx2, xf_9_13 hx2, xf_9_14 hx2, xf_9_15 hx2, xf_9_16 hx2, xf_5_1_45 hx2, xf_5_2_45 hx2, xf_5_1_50 hx2, xf_5_2_50 hx2, xf_5_1_55 hx2, xf_5_2_55 hx2, xf_5_1_60 hx2, xf_5_2_60 hx2, xk_18 hx2, xk_19 hx2, xk_21 hx2, xk_23 hx2, xk_25 hx2, xk_27 hx2, xk_29 hx2, xk_31 hx2, xk_33 hx2, xk_35 hx2, xk_37 hx2, xk_39 hx2, xk_41 hx2, xk_43 hx2, xk_45 hx2, xk_46 hx2, xk_48 hx2, xk_50 hx2, xk_51 hx2, xk_53 hx2, xk_55 hx2, xk_56 hx2, xk_58 hx2, xk_60 hx2, xk_61 hx2, xk_63 hx2, sgA.2, sgB.2, fx_n fsA, fx_d fsA, fx_i fsA, fx_p fsA, fx_k fsA, fx_kn fsA, fx_kd fsA, fx_n fsB, fx_d fsB, fx_i fsB, fx_p fsB, fx_k fsB, fx_kn fsB, fx_kd fsB, fx_n fsI, fx_d fsI, fx_i fsI, fx_p fsI, fx_k fsI, fx_kn fsI, fx_kd fsI, nb0, nb1]); first | with_reducible refine hx_bs ?_ | with_reducible refine hx_cs ?_ | with_reducible refine hx_t ?_ | with_reducible refine hx_f ?_ | with_reducible refine hx_nm ?_))); (try (conv => arg 1; arg 1; simp (disch := first | assumption | omega) only [xf_9_0 hx2, xf_9_1 hx2, xf_9_2 hx2, xf_9_3 hx2, xf_9_4 hx2, xf_9_5 hx2, xf_9_6 hx2, xf_9_7 hx2, xf_9_8 hx2, xf_9_9 hx2, xf_9_10 hx2, xf_9_11 hx2, xf_9_12 hx2, xf_9_13 hx2, xf_9_14 hx2, xf_9_15 hx2, xf_9_16 hx2, xf_5_1_45 hx2, xf_5_2_45 hx2, xf_5_1_50 hx2, xf_5_2_50 hx2, xf_5_1_55 hx2, xf_5_2_55 hx2, xf_5_1_60 hx2, xf_5_2_60 hx2, xk_18 hx2, xk_19 hx2, xk_21 hx2, xk_23 hx2, xk_25 hx2, xk_27 hx2, xk_29 hx2, xk_31 hx2, xk_33 hx2, xk_35 hx2, xk_37 hx2, xk_39 hx2, xk_41 hx2, xk_43 hx2, xk_45 hx2, xk_46 hx2, xk_48 hx2, xk_50 hx2, xk_51 hx2, xk_53 hx2, xk_55 hx2, xk_56 hx2, xk_58 hx2, xk_60 hx2, xk_61 hx2, xk_63 hx2, sgA.2, sgB.2, fx_n fsA, fx_d fsA, fx_i fsA, fx_p fsA, fx_k fsA, fx_kn fsA, fx_kd fsA, fx_n fsB, fx_d fsB, fx_i fsB, fx_p fsB, fx_k fsB, fx_kn fsB, fx_kd fsB, fx_n fsI, fx_d fsI, fx_i fsI, fx_p fsI, fx_k fsI, fx_kn fsI, fx_kd fsI, nb0, nb1]))
  refine Hx.bd (cw_divide hp2 hx2 hE hC (show x + 35 ∈ PX x by simp) (show x + 23 ∈ PX x by simp) (lt_bp hd' (by omega)) (by omega)) (fun σ3 v3 h3 => ?_)
  obtain ⟨hF3, hP2, _⟩ := h3
  have hp3 := hF3.hp
  have hx3 := hx2.kW hF3
  replace fsA := fsA.kW hF3
  replace fsB := fsB.kW hF3
  replace fsI := fsI.kW hF3
  try replace sgA := sgA.kW hF3 (by simp only [s1, s2, s3, sG, sR, sRc]; omega)
  try replace sgB := sgB.kW hF3 (by simp only [s1, s2, s3, sG, sR, sRc]; omega)
  try replace hN := hN.kW hF3 (by simp only [s1, s2, s3, sG, sR, sRc]; omega)
  try replace hD := hD.kW hF3 (by simp only [s1, s2, s3, sG, sR, sRc]; omega)
  try replace hM := hM.kW hF3 (by simp only [s1, s2, s3, sG, sR, sRc]; omega)
  try replace hE := hE.kW hF3 (by simp only [s1, s2, s3, sG, sR, sRc]; omega)
  try replace hC := hC.kW hF3 (by simp only [s1, s2, s3, sG, sR, sRc]; omega)
  try replace hP1 := hP1.kW hF3 (by simp only [s1, s2, s3, sG, sR, sRc]; omega)
  have hG3 := hG2.tr0 hF3 (fun r _ hr => by simp only [s1, s2, s3, sG, sR, sRc] at hr ⊢; omega)
  (repeat (first | with_reducible refine hx_bs ?_ | with_reducible refine hx_cs ?_ | with_reducible refine hx_t ?_ | with_reducible refine hx_f ?_ | ((conv => arg 1; arg 1; simp (disch := first | assumption | omega) only [xf_9_0 hx3, xf_9_1 hx3, xf_9_2 hx3, xf_9_3 hx3, xf_9_4 hx3, xf_9_5 hx3, xf_9_6 hx3, xf_9_7 hx3, xf_9_8 hx3, xf_9_9 hx3, xf_9_10 hx3, xf_9_11 hx3, xf_9_12 hx3, xf_9_13 hx3, xf_9_14 hx3, xf_9_15 hx3, xf_9_16 hx3, xf_5_1_45 hx3, xf_5_2_45 hx3, xf_5_1_50 hx3, xf_5_2_50 hx3, xf_5_1_55 hx3, xf_5_2_55 hx3, xf_5_1_60 hx3, xf_5_2_60 hx3, xk_18 hx3, xk_19 hx3, xk_21 hx3, xk_23 hx3, xk_25 hx3, xk_27 hx3, xk_29 hx3, xk_31 hx3, xk_33 hx3, xk_35 hx3, xk_37 hx3, xk_39 hx3, xk_41 hx3, xk_43 hx3, xk_45 hx3, xk_46 hx3, xk_48 hx3, xk_50 hx3, xk_51 hx3, xk_53 hx3, xk_55 hx3, xk_56 hx3, xk_58 hx3, xk_60 hx3, xk_61 hx3, xk_63 hx3, sgA.2, sgB.2, fx_n fsA, fx_d fsA, fx_i fsA, fx_p fsA, fx_k fsA, fx_kn fsA, fx_kd fsA, fx_n fsB, fx_d fsB, fx_i fsB, fx_p fsB, fx_k fsB, fx_kn fsB, fx_kd fsB, fx_n fsI, fx_d fsI, fx_i fsI, fx_p fsI, fx_k fsI, fx_kn fsI, fx_kd fsI, nb0, nb1]); first | with_reducible refine hx_bs ?_ | with_reducible refine hx_cs ?_ | with_reducible refine hx_t ?_ | with_reducible refine hx_f ?_ | with_reducible refine hx_nm ?_))); (try (conv => arg 1; arg 1; simp (disch := first | assumption | omega) only [xf_9_0 hx3, xf_9_1 hx3, xf_9_2 hx3, xf_9_3 hx3, xf_9_4 hx3, xf_9_5 hx3, xf_9_6 hx3, xf_9_7 hx3, xf_9_8 hx3, xf_9_9 hx3, xf_9_10 hx3, xf_9_11 hx3, xf_9_12 hx3, xf_9_13 hx3, xf_9_14 hx3, xf_9_15 hx3, xf_9_16 hx3, xf_5_1_45 hx3, xf_5_2_45 hx3, xf_5_1_50 hx3, xf_5_2_50 hx3, xf_5_1_55 hx3, xf_5_2_55 hx3, xf_5_1_60 hx3, xf_5_2_60 hx3, xk_18 hx3, xk_19 hx3, xk_21 hx3, xk_23 hx3, xk_25 hx3, xk_27 hx3, xk_29 hx3, xk_31 hx3, xk_33 hx3, xk_35 hx3, xk_37 hx3, xk_39 hx3, xk_41 hx3, xk_43 hx3, xk_45 hx3, xk_46 hx3, xk_48 hx3, xk_50 hx3, xk_51 hx3, xk_53 hx3, xk_55 hx3, xk_56 hx3, xk_58 hx3, xk_60 hx3, xk_61 hx3, xk_63 hx3, sgA.2, sgB.2, fx_n fsA, fx_d fsA, fx_i fsA, fx_p fsA, fx_k fsA, fx_kn fsA, fx_kd fsA, fx_n fsB, fx_d fsB, fx_i fsB, fx_p fsB, fx_k fsB, fx_kn fsB, fx_kd fsB, fx_n fsI, fx_d fsI, fx_i fsI, fx_p fsI, fx_k fsI, fx_kn fsI, fx_kd fsI, nb0, nb1]))
  refine Hx.bd (cw_setProduct hp3 hN hP2 (show x + 37 ∈ PX x by simp) (by omega) (by omega) (lt_bp hn (by omega)) (lt_bp (bp_dvd _ hd') (by omega))) (fun σ4 v4 h4 => ?_)
  obtain ⟨hF4, hL⟩ := h4
  have hp4 := hF4.hp
  have hx4 := hx3.kW hF4
  replace fsA := fsA.kW hF4
  replace fsB := fsB.kW hF4
  replace fsI := fsI.kW hF4
  try replace sgA := sgA.kW hF4 (by simp only [s1, s2, s3, sG, sR, sRc]; omega)
  try replace sgB := sgB.kW hF4 (by simp only [s1, s2, s3, sG, sR, sRc]; omega)
  try replace hN := hN.kW hF4 (by simp only [s1, s2, s3, sG, sR, sRc]; omega)
  try replace hD := hD.kW hF4 (by simp only [s1, s2, s3, sG, sR, sRc]; omega)
  try replace hM := hM.kW hF4 (by simp only [s1, s2, s3, sG, sR, sRc]; omega)
  try replace hE := hE.kW hF4 (by simp only [s1, s2, s3, sG, sR, sRc]; omega)
  try replace hC := hC.kW hF4 (by simp only [s1, s2, s3, sG, sR, sRc]; omega)
  try replace hP1 := hP1.kW hF4 (by simp only [s1, s2, s3, sG, sR, sRc]; omega)
  try replace hP2 := hP2.kW hF4 (by simp only [s1, s2, s3, sG, sR, sRc]; omega)
  have hG4 := hG3.tr0 hF4 (fun r _ hr => by simp only [s1, s2, s3, sG, sR, sRc] at hr ⊢; omega)
  (repeat (first | with_reducible refine hx_bs ?_ | with_reducible refine hx_cs ?_ | with_reducible refine hx_t ?_ | with_reducible refine hx_f ?_ | ((conv => arg 1; arg 1; simp (disch := first | assumption | omega) only [xf_9_0 hx4, xf_9_1 hx4, xf_9_2 hx4, xf_9_3 hx4, xf_9_4 hx4, xf_9_5 hx4, xf_9_6 hx4, xf_9_7 hx4, xf_9_8 hx4, xf_9_9 hx4, xf_9_10 hx4, xf_9_11 hx4, xf_9_12 hx4, xf_9_13 hx4, xf_9_14 hx4, xf_9_15 hx4, xf_9_16 hx4, xf_5_1_45 hx4, xf_5_2_45 hx4, xf_5_1_50 hx4, xf_5_2_50 hx4, xf_5_1_55 hx4, xf_5_2_55 hx4, xf_5_1_60 hx4, xf_5_2_60 hx4, xk_18 hx4, xk_19 hx4, xk_21 hx4, xk_23 hx4, xk_25 hx4, xk_27 hx4, xk_29 hx4, xk_31 hx4, xk_33 hx4, xk_35 hx4, xk_37 hx4, xk_39 hx4, xk_41 hx4, xk_43 hx4, xk_45 hx4, xk_46 hx4, xk_48 hx4, xk_50 hx4, xk_51 hx4, xk_53 hx4, xk_55 hx4, xk_56 hx4, xk_58 hx4, xk_60 hx4, xk_61 hx4, xk_63 hx4, sgA.2, sgB.2, fx_n fsA, fx_d fsA, fx_i fsA, fx_p fsA, fx_k fsA, fx_kn fsA, fx_kd fsA, fx_n fsB, fx_d fsB, fx_i fsB, fx_p fsB, fx_k fsB, fx_kn fsB, fx_kd fsB, fx_n fsI, fx_d fsI, fx_i fsI, fx_p fsI, fx_k fsI, fx_kn fsI, fx_kd fsI, nb0, nb1]); first | with_reducible refine hx_bs ?_ | with_reducible refine hx_cs ?_ | with_reducible refine hx_t ?_ | with_reducible refine hx_f ?_ | with_reducible refine hx_nm ?_))); (try (conv => arg 1; arg 1; simp (disch := first | assumption | omega) only [xf_9_0 hx4, xf_9_1 hx4, xf_9_2 hx4, xf_9_3 hx4, xf_9_4 hx4, xf_9_5 hx4, xf_9_6 hx4, xf_9_7 hx4, xf_9_8 hx4, xf_9_9 hx4, xf_9_10 hx4, xf_9_11 hx4, xf_9_12 hx4, xf_9_13 hx4, xf_9_14 hx4, xf_9_15 hx4, xf_9_16 hx4, xf_5_1_45 hx4, xf_5_2_45 hx4, xf_5_1_50 hx4, xf_5_2_50 hx4, xf_5_1_55 hx4, xf_5_2_55 hx4, xf_5_1_60 hx4, xf_5_2_60 hx4, xk_18 hx4, xk_19 hx4, xk_21 hx4, xk_23 hx4, xk_25 hx4, xk_27 hx4, xk_29 hx4, xk_31 hx4, xk_33 hx4, xk_35 hx4, xk_37 hx4, xk_39 hx4, xk_41 hx4, xk_43 hx4, xk_45 hx4, xk_46 hx4, xk_48 hx4, xk_50 hx4, xk_51 hx4, xk_53 hx4, xk_55 hx4, xk_56 hx4, xk_58 hx4, xk_60 hx4, xk_61 hx4, xk_63 hx4, sgA.2, sgB.2, fx_n fsA, fx_d fsA, fx_i fsA, fx_p fsA, fx_k fsA, fx_kn fsA, fx_kd fsA, fx_n fsB, fx_d fsB, fx_i fsB, fx_p fsB, fx_k fsB, fx_kn fsB, fx_kd fsB, fx_n fsI, fx_d fsI, fx_i fsI, fx_p fsI, fx_k fsI, fx_kn fsI, fx_kd fsI, nb0, nb1]))
  refine Hx.bd (cw_setProduct hp4 hM hP1 (show x + 39 ∈ PX x by simp) (by omega) (by omega) (lt_bp hn' (by omega)) (lt_bp (bp_dvd _ hd) (by omega))) (fun σ5 v5 h5 => ?_)
  obtain ⟨hF5, hR⟩ := h5
  have hp5 := hF5.hp
  have hx5 := hx4.kW hF5
  replace fsA := fsA.kW hF5
  replace fsB := fsB.kW hF5
  replace fsI := fsI.kW hF5
  try replace sgA := sgA.kW hF5 (by simp only [s1, s2, s3, sG, sR, sRc]; omega)
  try replace sgB := sgB.kW hF5 (by simp only [s1, s2, s3, sG, sR, sRc]; omega)
  try replace hN := hN.kW hF5 (by simp only [s1, s2, s3, sG, sR, sRc]; omega)
  try replace hD := hD.kW hF5 (by simp only [s1, s2, s3, sG, sR, sRc]; omega)
  try replace hM := hM.kW hF5 (by simp only [s1, s2, s3, sG, sR, sRc]; omega)
  try replace hE := hE.kW hF5 (by simp only [s1, s2, s3, sG, sR, sRc]; omega)
  try replace hC := hC.kW hF5 (by simp only [s1, s2, s3, sG, sR, sRc]; omega)
  try replace hP1 := hP1.kW hF5 (by simp only [s1, s2, s3, sG, sR, sRc]; omega)
  try replace hP2 := hP2.kW hF5 (by simp only [s1, s2, s3, sG, sR, sRc]; omega)
  try replace hL := hL.kW hF5 (by simp only [s1, s2, s3, sG, sR, sRc]; omega)
  have hG5 := hG4.tr0 hF5 (fun r _ hr => by simp only [s1, s2, s3, sG, sR, sRc] at hr ⊢; omega)
  (repeat (first | with_reducible refine hx_bs ?_ | with_reducible refine hx_cs ?_ | with_reducible refine hx_t ?_ | with_reducible refine hx_f ?_ | ((conv => arg 1; arg 1; simp (disch := first | assumption | omega) only [xf_9_0 hx5, xf_9_1 hx5, xf_9_2 hx5, xf_9_3 hx5, xf_9_4 hx5, xf_9_5 hx5, xf_9_6 hx5, xf_9_7 hx5, xf_9_8 hx5, xf_9_9 hx5, xf_9_10 hx5, xf_9_11 hx5, xf_9_12 hx5, xf_9_13 hx5, xf_9_14 hx5, xf_9_15 hx5, xf_9_16 hx5, xf_5_1_45 hx5, xf_5_2_45 hx5, xf_5_1_50 hx5, xf_5_2_50 hx5, xf_5_1_55 hx5, xf_5_2_55 hx5, xf_5_1_60 hx5, xf_5_2_60 hx5, xk_18 hx5, xk_19 hx5, xk_21 hx5, xk_23 hx5, xk_25 hx5, xk_27 hx5, xk_29 hx5, xk_31 hx5, xk_33 hx5, xk_35 hx5, xk_37 hx5, xk_39 hx5, xk_41 hx5, xk_43 hx5, xk_45 hx5, xk_46 hx5, xk_48 hx5, xk_50 hx5, xk_51 hx5, xk_53 hx5, xk_55 hx5, xk_56 hx5, xk_58 hx5, xk_60 hx5, xk_61 hx5, xk_63 hx5, sgA.2, sgB.2, fx_n fsA, fx_d fsA, fx_i fsA, fx_p fsA, fx_k fsA, fx_kn fsA, fx_kd fsA, fx_n fsB, fx_d fsB, fx_i fsB, fx_p fsB, fx_k fsB, fx_kn fsB, fx_kd fsB, fx_n fsI, fx_d fsI, fx_i fsI, fx_p fsI, fx_k fsI, fx_kn fsI, fx_kd fsI, nb0, nb1]); first | with_reducible refine hx_bs ?_ | with_reducible refine hx_cs ?_ | with_reducible refine hx_t ?_ | with_reducible refine hx_f ?_ | with_reducible refine hx_nm ?_))); (try (conv => arg 1; arg 1; simp (disch := first | assumption | omega) only [xf_9_0 hx5, xf_9_1 hx5, xf_9_2 hx5, xf_9_3 hx5, xf_9_4 hx5, xf_9_5 hx5, xf_9_6 hx5, xf_9_7 hx5, xf_9_8 hx5, xf_9_9 hx5, xf_9_10 hx5, xf_9_11 hx5, xf_9_12 hx5, xf_9_13 hx5, xf_9_14 hx5, xf_9_15 hx5, xf_9_16 hx5, xf_5_1_45 hx5, xf_5_2_45 hx5, xf_5_1_50 hx5, xf_5_2_50 hx5, xf_5_1_55 hx5, xf_5_2_55 hx5, xf_5_1_60 hx5, xf_5_2_60 hx5, xk_18 hx5, xk_19 hx5, xk_21 hx5, xk_23 hx5, xk_25 hx5, xk_27 hx5, xk_29 hx5, xk_31 hx5, xk_33 hx5, xk_35 hx5, xk_37 hx5, xk_39 hx5, xk_41 hx5, xk_43 hx5, xk_45 hx5, xk_46 hx5, xk_48 hx5, xk_50 hx5, xk_51 hx5, xk_53 hx5, xk_55 hx5, xk_56 hx5, xk_58 hx5, xk_60 hx5, xk_61 hx5, xk_63 hx5, sgA.2, sgB.2, fx_n fsA, fx_d fsA, fx_i fsA, fx_p fsA, fx_k fsA, fx_kn fsA, fx_kd fsA, fx_n fsB, fx_d fsB, fx_i fsB, fx_p fsB, fx_k fsB, fx_kn fsB, fx_kd fsB, fx_n fsI, fx_d fsI, fx_i fsI, fx_p fsI, fx_k fsI, fx_kn fsI, fx_kd fsI, nb0, nb1]))
  have hgo : ∀ w : Int32, w = iz u → Hx (fX5_add_107 σ5 (x + 18) b into (x + 18) (iz s) w) (fun σ' _ => cW x (sR x into) 0 0 σ σ' ∧ ∃ q : Qv, q = qmk (jnS s u (n * d') (n' * d)) (jnN s u (n * d') (n' * d)) (d * d') ∧ FX σ' into q.1 q.2.1 q.2.2) := by
    intro w hw
    subst hw
    rw [n_fX5_add_107]
    (repeat (first | with_reducible refine hx_bs ?_ | with_reducible refine hx_cs ?_ | with_reducible refine hx_t ?_ | with_reducible refine hx_f ?_ | ((conv => arg 1; arg 1; simp (disch := first | assumption | omega) only [xf_9_0 hx5, xf_9_1 hx5, xf_9_2 hx5, xf_9_3 hx5, xf_9_4 hx5, xf_9_5 hx5, xf_9_6 hx5, xf_9_7 hx5, xf_9_8 hx5, xf_9_9 hx5, xf_9_10 hx5, xf_9_11 hx5, xf_9_12 hx5, xf_9_13 hx5, xf_9_14 hx5, xf_9_15 hx5, xf_9_16 hx5, xf_5_1_45 hx5, xf_5_2_45 hx5, xf_5_1_50 hx5, xf_5_2_50 hx5, xf_5_1_55 hx5, xf_5_2_55 hx5, xf_5_1_60 hx5, xf_5_2_60 hx5, xk_18 hx5, xk_19 hx5, xk_21 hx5, xk_23 hx5, xk_25 hx5, xk_27 hx5, xk_29 hx5, xk_31 hx5, xk_33 hx5, xk_35 hx5, xk_37 hx5, xk_39 hx5, xk_41 hx5, xk_43 hx5, xk_45 hx5, xk_46 hx5, xk_48 hx5, xk_50 hx5, xk_51 hx5, xk_53 hx5, xk_55 hx5, xk_56 hx5, xk_58 hx5, xk_60 hx5, xk_61 hx5, xk_63 hx5, sgA.2, sgB.2, fx_n fsA, fx_d fsA, fx_i fsA, fx_p fsA, fx_k fsA, fx_kn fsA, fx_kd fsA, fx_n fsB, fx_d fsB, fx_i fsB, fx_p fsB, fx_k fsB, fx_kn fsB, fx_kd fsB, fx_n fsI, fx_d fsI, fx_i fsI, fx_p fsI, fx_k fsI, fx_kn fsI, fx_kd fsI, nb0, nb1]); first | with_reducible refine hx_bs ?_ | with_reducible refine hx_cs ?_ | with_reducible refine hx_t ?_ | with_reducible refine hx_f ?_ | with_reducible refine hx_nm ?_))); (try (conv => arg 1; arg 1; simp (disch := first | assumption | omega) only [xf_9_0 hx5, xf_9_1 hx5, xf_9_2 hx5, xf_9_3 hx5, xf_9_4 hx5, xf_9_5 hx5, xf_9_6 hx5, xf_9_7 hx5, xf_9_8 hx5, xf_9_9 hx5, xf_9_10 hx5, xf_9_11 hx5, xf_9_12 hx5, xf_9_13 hx5, xf_9_14 hx5, xf_9_15 hx5, xf_9_16 hx5, xf_5_1_45 hx5, xf_5_2_45 hx5, xf_5_1_50 hx5, xf_5_2_50 hx5, xf_5_1_55 hx5, xf_5_2_55 hx5, xf_5_1_60 hx5, xf_5_2_60 hx5, xk_18 hx5, xk_19 hx5, xk_21 hx5, xk_23 hx5, xk_25 hx5, xk_27 hx5, xk_29 hx5, xk_31 hx5, xk_33 hx5, xk_35 hx5, xk_37 hx5, xk_39 hx5, xk_41 hx5, xk_43 hx5, xk_45 hx5, xk_46 hx5, xk_48 hx5, xk_50 hx5, xk_51 hx5, xk_53 hx5, xk_55 hx5, xk_56 hx5, xk_58 hx5, xk_60 hx5, xk_61 hx5, xk_63 hx5, sgA.2, sgB.2, fx_n fsA, fx_d fsA, fx_i fsA, fx_p fsA, fx_k fsA, fx_kn fsA, fx_kd fsA, fx_n fsB, fx_d fsB, fx_i fsB, fx_p fsB, fx_k fsB, fx_kn fsB, fx_kd fsB, fx_n fsI, fx_d fsI, fx_i fsI, fx_p fsI, fx_k fsI, fx_kn fsI, fx_kd fsI, nb0, nb1]))
    refine Hx.bd (cr_join hp5 hx5 hL hR fsI hI hix (lt_bp b1 (by omega)) (lt_bp b2 (by omega)) hs hub) (fun σ6 v6 h6 => ?_)
    obtain ⟨hF6, sgI, hT1⟩ := h6
    have hp6 := hF6.hp
    have hx6 := hx5.kW hF6
    replace fsA := fsA.kW hF6
    replace fsB := fsB.kW hF6
    replace fsI := fsI.kW hF6
    try replace sgA := sgA.kW hF6 (by simp only [s1, s2, s3, sG, sR, sRc]; omega)
    try replace sgB := sgB.kW hF6 (by simp only [s1, s2, s3, sG, sR, sRc]; omega)
    try replace hN := hN.kW hF6 (by simp only [s1, s2, s3, sG, sR, sRc]; omega)
    try replace hD := hD.kW hF6 (by simp only [s1, s2, s3, sG, sR, sRc]; omega)
    try replace hM := hM.kW hF6 (by simp only [s1, s2, s3, sG, sR, sRc]; omega)
    try replace hE := hE.kW hF6 (by simp only [s1, s2, s3, sG, sR, sRc]; omega)
    try replace hC := hC.kW hF6 (by simp only [s1, s2, s3, sG, sR, sRc]; omega)
    try replace hP1 := hP1.kW hF6 (by simp only [s1, s2, s3, sG, sR, sRc]; omega)
    try replace hP2 := hP2.kW hF6 (by simp only [s1, s2, s3, sG, sR, sRc]; omega)
    try replace hL := hL.kW hF6 (by simp only [s1, s2, s3, sG, sR, sRc]; omega)
    try replace hR := hR.kW hF6 (by simp only [s1, s2, s3, sG, sR, sRc]; omega)
    have hG6 := hG5.tr0 hF6 (fun r _ hr => by simp only [s1, s2, s3, sG, sR, sRc] at hr ⊢; omega)
    (repeat (first | with_reducible refine hx_bs ?_ | with_reducible refine hx_cs ?_ | with_reducible refine hx_t ?_ | with_reducible refine hx_f ?_ | ((conv => arg 1; arg 1; simp (disch := first | assumption | omega) only [xf_9_0 hx6, xf_9_1 hx6, xf_9_2 hx6, xf_9_3 hx6, xf_9_4 hx6, xf_9_5 hx6, xf_9_6 hx6, xf_9_7 hx6, xf_9_8 hx6, xf_9_9 hx6, xf_9_10 hx6, xf_9_11 hx6, xf_9_12 hx6, xf_9_13 hx6, xf_9_14 hx6, xf_9_15 hx6, xf_9_16 hx6, xf_5_1_45 hx6, xf_5_2_45 hx6, xf_5_1_50 hx6, xf_5_2_50 hx6, xf_5_1_55 hx6, xf_5_2_55 hx6, xf_5_1_60 hx6, xf_5_2_60 hx6, xk_18 hx6, xk_19 hx6, xk_21 hx6, xk_23 hx6, xk_25 hx6, xk_27 hx6, xk_29 hx6, xk_31 hx6, xk_33 hx6, xk_35 hx6, xk_37 hx6, xk_39 hx6, xk_41 hx6, xk_43 hx6, xk_45 hx6, xk_46 hx6, xk_48 hx6, xk_50 hx6, xk_51 hx6, xk_53 hx6, xk_55 hx6, xk_56 hx6, xk_58 hx6, xk_60 hx6, xk_61 hx6, xk_63 hx6, sgA.2, sgB.2, sgI.2, fx_n fsA, fx_d fsA, fx_i fsA, fx_p fsA, fx_k fsA, fx_kn fsA, fx_kd fsA, fx_n fsB, fx_d fsB, fx_i fsB, fx_p fsB, fx_k fsB, fx_kn fsB, fx_kd fsB, fx_n fsI, fx_d fsI, fx_i fsI, fx_p fsI, fx_k fsI, fx_kn fsI, fx_kd fsI, nb0, nb1]); first | with_reducible refine hx_bs ?_ | with_reducible refine hx_cs ?_ | with_reducible refine hx_t ?_ | with_reducible refine hx_f ?_ | with_reducible refine hx_nm ?_))); (try (conv => arg 1; arg 1; simp (disch := first | assumption | omega) only [xf_9_0 hx6, xf_9_1 hx6, xf_9_2 hx6, xf_9_3 hx6, xf_9_4 hx6, xf_9_5 hx6, xf_9_6 hx6, xf_9_7 hx6, xf_9_8 hx6, xf_9_9 hx6, xf_9_10 hx6, xf_9_11 hx6, xf_9_12 hx6, xf_9_13 hx6, xf_9_14 hx6, xf_9_15 hx6, xf_9_16 hx6, xf_5_1_45 hx6, xf_5_2_45 hx6, xf_5_1_50 hx6, xf_5_2_50 hx6, xf_5_1_55 hx6, xf_5_2_55 hx6, xf_5_1_60 hx6, xf_5_2_60 hx6, xk_18 hx6, xk_19 hx6, xk_21 hx6, xk_23 hx6, xk_25 hx6, xk_27 hx6, xk_29 hx6, xk_31 hx6, xk_33 hx6, xk_35 hx6, xk_37 hx6, xk_39 hx6, xk_41 hx6, xk_43 hx6, xk_45 hx6, xk_46 hx6, xk_48 hx6, xk_50 hx6, xk_51 hx6, xk_53 hx6, xk_55 hx6, xk_56 hx6, xk_58 hx6, xk_60 hx6, xk_61 hx6, xk_63 hx6, sgA.2, sgB.2, sgI.2, fx_n fsA, fx_d fsA, fx_i fsA, fx_p fsA, fx_k fsA, fx_kn fsA, fx_kd fsA, fx_n fsB, fx_d fsB, fx_i fsB, fx_p fsB, fx_k fsB, fx_kn fsB, fx_kd fsB, fx_n fsI, fx_d fsI, fx_i fsI, fx_p fsI, fx_k fsI, fx_kn fsI, fx_kd fsI, nb0, nb1]))
    refine Hx.bd (cw_gcd hp6 hx6 hT1 hC (show x + 31 ∈ PX x by simp) (by omega) (by omega) (lt_bp hT (by omega)) (lt_bp hgb (by omega))) (fun σ7 v7 h7 => ?_)
    obtain ⟨hF7, hG2⟩ := h7
    have hp7 := hF7.hp
    have hx7 := hx6.kW hF7
    replace fsA := fsA.kW hF7
    replace fsB := fsB.kW hF7
    replace fsI := fsI.kW hF7
    try replace sgA := sgA.kW hF7 (by simp only [s1, s2, s3, sG, sR, sRc]; omega)
    try replace sgB := sgB.kW hF7 (by simp only [s1, s2, s3, sG, sR, sRc]; omega)
    try replace hN := hN.kW hF7 (by simp only [s1, s2, s3, sG, sR, sRc]; omega)
    try replace hD := hD.kW hF7 (by simp only [s1, s2, s3, sG, sR, sRc]; omega)
    try replace hM := hM.kW hF7 (by simp only [s1, s2, s3, sG, sR, sRc]; omega)
    try replace hE := hE.kW hF7 (by simp only [s1, s2, s3, sG, sR, sRc]; omega)
    try replace hC := hC.kW hF7 (by simp only [s1, s2, s3, sG, sR, sRc]; omega)
    try replace hP1 := hP1.kW hF7 (by simp only [s1, s2, s3, sG, sR, sRc]; omega)
    try replace hP2 := hP2.kW hF7 (by simp only [s1, s2, s3, sG, sR, sRc]; omega)
    try replace hL := hL.kW hF7 (by simp only [s1, s2, s3, sG, sR, sRc]; omega)
    try replace hR := hR.kW hF7 (by simp only [s1, s2, s3, sG, sR, sRc]; omega)
    try replace sgI := sgI.kW hF7 (by simp only [s1, s2, s3, sG, sR, sRc]; omega)
    try replace hT1 := hT1.kW hF7 (by simp only [s1, s2, s3, sG, sR, sRc]; omega)
    have hG7 := hG6.tr0 hF7 (fun r _ hr => by simp only [s1, s2, s3, sG, sR, sRc] at hr ⊢; omega)
    (repeat (first | with_reducible refine hx_bs ?_ | with_reducible refine hx_cs ?_ | with_reducible refine hx_t ?_ | with_reducible refine hx_f ?_ | ((conv => arg 1; arg 1; simp (disch := first | assumption | omega) only [xf_9_0 hx7, xf_9_1 hx7, xf_9_2 hx7, xf_9_3 hx7, xf_9_4 hx7, xf_9_5 hx7, xf_9_6 hx7, xf_9_7 hx7, xf_9_8 hx7, xf_9_9 hx7, xf_9_10 hx7, xf_9_11 hx7, xf_9_12 hx7, xf_9_13 hx7, xf_9_14 hx7, xf_9_15 hx7, xf_9_16 hx7, xf_5_1_45 hx7, xf_5_2_45 hx7, xf_5_1_50 hx7, xf_5_2_50 hx7, xf_5_1_55 hx7, xf_5_2_55 hx7, xf_5_1_60 hx7, xf_5_2_60 hx7, xk_18 hx7, xk_19 hx7, xk_21 hx7, xk_23 hx7, xk_25 hx7, xk_27 hx7, xk_29 hx7, xk_31 hx7, xk_33 hx7, xk_35 hx7, xk_37 hx7, xk_39 hx7, xk_41 hx7, xk_43 hx7, xk_45 hx7, xk_46 hx7, xk_48 hx7, xk_50 hx7, xk_51 hx7, xk_53 hx7, xk_55 hx7, xk_56 hx7, xk_58 hx7, xk_60 hx7, xk_61 hx7, xk_63 hx7, sgA.2, sgB.2, sgI.2, fx_n fsA, fx_d fsA, fx_i fsA, fx_p fsA, fx_k fsA, fx_kn fsA, fx_kd fsA, fx_n fsB, fx_d fsB, fx_i fsB, fx_p fsB, fx_k fsB, fx_kn fsB, fx_kd fsB, fx_n fsI, fx_d fsI, fx_i fsI, fx_p fsI, fx_k fsI, fx_kn fsI, fx_kd fsI, nb0, nb1]); first | with_reducible refine hx_bs ?_ | with_reducible refine hx_cs ?_ | with_reducible refine hx_t ?_ | with_reducible refine hx_f ?_ | with_reducible refine hx_nm ?_))); (try (conv => arg 1; arg 1; simp (disch := first | assumption | omega) only [xf_9_0 hx7, xf_9_1 hx7, xf_9_2 hx7, xf_9_3 hx7, xf_9_4 hx7, xf_9_5 hx7, xf_9_6 hx7, xf_9_7 hx7, xf_9_8 hx7, xf_9_9 hx7, xf_9_10 hx7, xf_9_11 hx7, xf_9_12 hx7, xf_9_13 hx7, xf_9_14 hx7, xf_9_15 hx7, xf_9_16 hx7, xf_5_1_45 hx7, xf_5_2_45 hx7, xf_5_1_50 hx7, xf_5_2_50 hx7, xf_5_1_55 hx7, xf_5_2_55 hx7, xf_5_1_60 hx7, xf_5_2_60 hx7, xk_18 hx7, xk_19 hx7, xk_21 hx7, xk_23 hx7, xk_25 hx7, xk_27 hx7, xk_29 hx7, xk_31 hx7, xk_33 hx7, xk_35 hx7, xk_37 hx7, xk_39 hx7, xk_41 hx7, xk_43 hx7, xk_45 hx7, xk_46 hx7, xk_48 hx7, xk_50 hx7, xk_51 hx7, xk_53 hx7, xk_55 hx7, xk_56 hx7, xk_58 hx7, xk_60 hx7, xk_61 hx7, xk_63 hx7, sgA.2, sgB.2, sgI.2, fx_n fsA, fx_d fsA, fx_i fsA, fx_p fsA, fx_k fsA, fx_kn fsA, fx_kd fsA, fx_n fsB, fx_d fsB, fx_i fsB, fx_p fsB, fx_k fsB, fx_kn fsB, fx_kd fsB, fx_n fsI, fx_d fsI, fx_i fsI, fx_p fsI, fx_k fsI, fx_kn fsI, fx_kd fsI, nb0, nb1]))
    refine Hx.bd (cw_divide hp7 hx7 hT1 hG2 (show x + 37 ∈ PX x by simp) (show x + 23 ∈ PX x by simp) (lt_bp hT (by omega)) (by omega)) (fun σ8 v8 h8 => ?_)
    obtain ⟨hF8, hL, _⟩ := h8
    have hp8 := hF8.hp
    have hx8 := hx7.kW hF8
    replace fsA := fsA.kW hF8
    replace fsB := fsB.kW hF8
    replace fsI := fsI.kW hF8
    try replace sgA := sgA.kW hF8 (by simp only [s1, s2, s3, sG, sR, sRc]; omega)
    try replace sgB := sgB.kW hF8 (by simp only [s1, s2, s3, sG, sR, sRc]; omega)
    try replace hN := hN.kW hF8 (by simp only [s1, s2, s3, sG, sR, sRc]; omega)
    try replace hD := hD.kW hF8 (by simp only [s1, s2, s3, sG, sR, sRc]; omega)
    try replace hM := hM.kW hF8 (by simp only [s1, s2, s3, sG, sR, sRc]; omega)
    try replace hE := hE.kW hF8 (by simp only [s1, s2, s3, sG, sR, sRc]; omega)
    try replace hC := hC.kW hF8 (by simp only [s1, s2, s3, sG, sR, sRc]; omega)
    try replace hP1 := hP1.kW hF8 (by simp only [s1, s2, s3, sG, sR, sRc]; omega)
    try replace hP2 := hP2.kW hF8 (by simp only [s1, s2, s3, sG, sR, sRc]; omega)
    try replace hR := hR.kW hF8 (by simp only [s1, s2, s3, sG, sR, sRc]; omega)
    try replace sgI := sgI.kW hF8 (by simp only [s1, s2, s3, sG, sR, sRc]; omega)
    try replace hT1 := hT1.kW hF8 (by simp only [s1, s2, s3, sG, sR, sRc]; omega)
    try replace hG2 := hG2.kW hF8 (by simp only [s1, s2, s3, sG, sR, sRc]; omega)
    have hG8 := hG7.tr0 hF8 (fun r _ hr => by simp only [s1, s2, s3, sG, sR, sRc] at hr ⊢; omega)
    (repeat (first | with_reducible refine hx_bs ?_ | with_reducible refine hx_cs ?_ | with_reducible refine hx_t ?_ | with_reducible refine hx_f ?_ | ((conv => arg 1; arg 1; simp (disch := first | assumption | omega) only [xf_9_0 hx8, xf_9_1 hx8, xf_9_2 hx8, xf_9_3 hx8, xf_9_4 hx8, xf_9_5 hx8, xf_9_6 hx8, xf_9_7 hx8, xf_9_8 hx8, xf_9_9 hx8, xf_9_10 hx8, xf_9_11 hx8, xf_9_12 hx8, xf_9_13 hx8, xf_9_14 hx8, xf_9_15 hx8, xf_9_16 hx8, xf_5_1_45 hx8, xf_5_2_45 hx8, xf_5_1_50 hx8, xf_5_2_50 hx8, xf_5_1_55 hx8, xf_5_2_55 hx8, xf_5_1_60 hx8, xf_5_2_60 hx8, xk_18 hx8, xk_19 hx8, xk_21 hx8, xk_23 hx8, xk_25 hx8, xk_27 hx8, xk_29 hx8, xk_31 hx8, xk_33 hx8, xk_35 hx8, xk_37 hx8, xk_39 hx8, xk_41 hx8, xk_43 hx8, xk_45 hx8, xk_46 hx8, xk_48 hx8, xk_50 hx8, xk_51 hx8, xk_53 hx8, xk_55 hx8, xk_56 hx8, xk_58 hx8, xk_60 hx8, xk_61 hx8, xk_63 hx8, sgA.2, sgB.2, sgI.2, fx_n fsA, fx_d fsA, fx_i fsA, fx_p fsA, fx_k fsA, fx_kn fsA, fx_kd fsA, fx_n fsB, fx_d fsB, fx_i fsB, fx_p fsB, fx_k fsB, fx_kn fsB, fx_kd fsB, fx_n fsI, fx_d fsI, fx_i fsI, fx_p fsI, fx_k fsI, fx_kn fsI, fx_kd fsI, nb0, nb1]); first | with_reducible refine hx_bs ?_ | with_reducible refine hx_cs ?_ | with_reducible refine hx_t ?_ | with_reducible refine hx_f ?_ | with_reducible refine hx_nm ?_))); (try (conv => arg 1; arg 1; simp (disch := first | assumption | omega) only [xf_9_0 hx8, xf_9_1 hx8, xf_9_2 hx8, xf_9_3 hx8, xf_9_4 hx8, xf_9_5 hx8, xf_9_6 hx8, xf_9_7 hx8, xf_9_8 hx8, xf_9_9 hx8, xf_9_10 hx8, xf_9_11 hx8, xf_9_12 hx8, xf_9_13 hx8, xf_9_14 hx8, xf_9_15 hx8, xf_9_16 hx8, xf_5_1_45 hx8, xf_5_2_45 hx8, xf_5_1_50 hx8, xf_5_2_50 hx8, xf_5_1_55 hx8, xf_5_2_55 hx8, xf_5_1_60 hx8, xf_5_2_60 hx8, xk_18 hx8, xk_19 hx8, xk_21 hx8, xk_23 hx8, xk_25 hx8, xk_27 hx8, xk_29 hx8, xk_31 hx8, xk_33 hx8, xk_35 hx8, xk_37 hx8, xk_39 hx8, xk_41 hx8, xk_43 hx8, xk_45 hx8, xk_46 hx8, xk_48 hx8, xk_50 hx8, xk_51 hx8, xk_53 hx8, xk_55 hx8, xk_56 hx8, xk_58 hx8, xk_60 hx8, xk_61 hx8, xk_63 hx8, sgA.2, sgB.2, sgI.2, fx_n fsA, fx_d fsA, fx_i fsA, fx_p fsA, fx_k fsA, fx_kn fsA, fx_kd fsA, fx_n fsB, fx_d fsB, fx_i fsB, fx_p fsB, fx_k fsB, fx_kn fsB, fx_kd fsB, fx_n fsI, fx_d fsI, fx_i fsI, fx_p fsI, fx_k fsI, fx_kn fsI, fx_kd fsI, nb0, nb1]))
    refine Hx.bd (cw_setTo hp8 hT1 hL (Or.inl hI) (lt_bp (bp_dvd _ hT) (by omega))) (fun σ9 v9 h9 => ?_)
    obtain ⟨hF9, hT1⟩ := h9
    have hp9 := hF9.hp
    have hx9 := hx8.kW hF9
    replace fsA := fsA.kW hF9
    replace fsB := fsB.kW hF9
    replace fsI := fsI.kW hF9
    try replace sgA := sgA.kW hF9 (by simp only [s1, s2, s3, sG, sR, sRc]; omega)
    try replace sgB := sgB.kW hF9 (by simp only [s1, s2, s3, sG, sR, sRc]; omega)
    try replace hN := hN.kW hF9 (by simp only [s1, s2, s3, sG, sR, sRc]; omega)
    try replace hD := hD.kW hF9 (by simp only [s1, s2, s3, sG, sR, sRc]; omega)
    try replace hM := hM.kW hF9 (by simp only [s1, s2, s3, sG, sR, sRc]; omega)
    try replace hE := hE.kW hF9 (by simp only [s1, s2, s3, sG, sR, sRc]; omega)
    try replace hC := hC.kW hF9 (by simp only [s1, s2, s3, sG, sR, sRc]; omega)
    try replace hP1 := hP1.kW hF9 (by simp only [s1, s2, s3, sG, sR, sRc]; omega)
    try replace hP2 := hP2.kW hF9 (by simp only [s1, s2, s3, sG, sR, sRc]; omega)
    try replace hL := hL.kW hF9 (by simp only [s1, s2, s3, sG, sR, sRc]; omega)
    try replace hR := hR.kW hF9 (by simp only [s1, s2, s3, sG, sR, sRc]; omega)
    try replace sgI := sgI.kW hF9 (by simp only [s1, s2, s3, sG, sR, sRc]; omega)
    try replace hG2 := hG2.kW hF9 (by simp only [s1, s2, s3, sG, sR, sRc]; omega)
    have hG9 := hG8.tr0 hF9 (fun r _ hr => by simp only [s1, s2, s3, sG, sR, sRc] at hr ⊢; omega)
    (repeat (first | with_reducible refine hx_bs ?_ | with_reducible refine hx_cs ?_ | with_reducible refine hx_t ?_ | with_reducible refine hx_f ?_ | ((conv => arg 1; arg 1; simp (disch := first | assumption | omega) only [xf_9_0 hx9, xf_9_1 hx9, xf_9_2 hx9, xf_9_3 hx9, xf_9_4 hx9, xf_9_5 hx9, xf_9_6 hx9, xf_9_7 hx9, xf_9_8 hx9, xf_9_9 hx9, xf_9_10 hx9, xf_9_11 hx9, xf_9_12 hx9, xf_9_13 hx9, xf_9_14 hx9, xf_9_15 hx9, xf_9_16 hx9, xf_5_1_45 hx9, xf_5_2_45 hx9, xf_5_1_50 hx9, xf_5_2_50 hx9, xf_5_1_55 hx9, xf_5_2_55 hx9, xf_5_1_60 hx9, xf_5_2_60 hx9, xk_18 hx9, xk_19 hx9, xk_21 hx9, xk_23 hx9, xk_25 hx9, xk_27 hx9, xk_29 hx9, xk_31 hx9, xk_33 hx9, xk_35 hx9, xk_37 hx9, xk_39 hx9, xk_41 hx9, xk_43 hx9, xk_45 hx9, xk_46 hx9, xk_48 hx9, xk_50 hx9, xk_51 hx9, xk_53 hx9, xk_55 hx9, xk_56 hx9, xk_58 hx9, xk_60 hx9, xk_61 hx9, xk_63 hx9, sgA.2, sgB.2, sgI.2, fx_n fsA, fx_d fsA, fx_i fsA, fx_p fsA, fx_k fsA, fx_kn fsA, fx_kd fsA, fx_n fsB, fx_d fsB, fx_i fsB, fx_p fsB, fx_k fsB, fx_kn fsB, fx_kd fsB, fx_n fsI, fx_d fsI, fx_i fsI, fx_p fsI, fx_k fsI, fx_kn fsI, fx_kd fsI, nb0, nb1]); first | with_reducible refine hx_bs ?_ | with_reducible refine hx_cs ?_ | with_reducible refine hx_t ?_ | with_reducible refine hx_f ?_ | with_reducible refine hx_nm ?_))); (try (conv => arg 1; arg 1; simp (disch := first | assumption | omega) only [xf_9_0 hx9, xf_9_1 hx9, xf_9_2 hx9, xf_9_3 hx9, xf_9_4 hx9, xf_9_5 hx9, xf_9_6 hx9, xf_9_7 hx9, xf_9_8 hx9, xf_9_9 hx9, xf_9_10 hx9, xf_9_11 hx9, xf_9_12 hx9, xf_9_13 hx9, xf_9_14 hx9, xf_9_15 hx9, xf_9_16 hx9, xf_5_1_45 hx9, xf_5_2_45 hx9, xf_5_1_50 hx9, xf_5_2_50 hx9, xf_5_1_55 hx9, xf_5_2_55 hx9, xf_5_1_60 hx9, xf_5_2_60 hx9, xk_18 hx9, xk_19 hx9, xk_21 hx9, xk_23 hx9, xk_25 hx9, xk_27 hx9, xk_29 hx9, xk_31 hx9, xk_33 hx9, xk_35 hx9, xk_37 hx9, xk_39 hx9, xk_41 hx9, xk_43 hx9, xk_45 hx9, xk_46 hx9, xk_48 hx9, xk_50 hx9, xk_51 hx9, xk_53 hx9, xk_55 hx9, xk_56 hx9, xk_58 hx9, xk_60 hx9, xk_61 hx9, xk_63 hx9, sgA.2, sgB.2, sgI.2, fx_n fsA, fx_d fsA, fx_i fsA, fx_p fsA, fx_k fsA, fx_kn fsA, fx_kd fsA, fx_n fsB, fx_d fsB, fx_i fsB, fx_p fsB, fx_k fsB, fx_kn fsB, fx_kd fsB, fx_n fsI, fx_d fsI, fx_i fsI, fx_p fsI, fx_k fsI, fx_kn fsI, fx_kd fsI, nb0, nb1]))
    refine Hx.bd (cw_divide hp9 hx9 hE hG2 (show x + 35 ∈ PX x by simp) (show x + 23 ∈ PX x by simp) (lt_bp hd' (by omega)) (by omega)) (fun σ10 v10 h10 => ?_)
    obtain ⟨hF10, hP2, _⟩ := h10
    have hp10 := hF10.hp
    have hx10 := hx9.kW hF10
    replace fsA := fsA.kW hF10
    replace fsB := fsB.kW hF10
    replace fsI := fsI.kW hF10
    try replace sgA := sgA.kW hF10 (by simp only [s1, s2, s3, sG, sR, sRc]; omega)
    try replace sgB := sgB.kW hF10 (by simp only [s1, s2, s3, sG, sR, sRc]; omega)
    try replace hN := hN.kW hF10 (by simp only [s1, s2, s3, sG, sR, sRc]; omega)
    try replace hD := hD.kW hF10 (by simp only [s1, s2, s3, sG, sR, sRc]; omega)
    try replace hM := hM.kW hF10 (by simp only [s1, s2, s3, sG, sR, sRc]; omega)
    try replace hE := hE.kW hF10 (by simp only [s1, s2, s3, sG, sR, sRc]; omega)
    try replace hC := hC.kW hF10 (by simp only [s1, s2, s3, sG, sR, sRc]; omega)
    try replace hP1 := hP1.kW hF10 (by simp only [s1, s2, s3, sG, sR, sRc]; omega)
    try replace hL := hL.kW hF10 (by simp only [s1, s2, s3, sG, sR, sRc]; omega)
    try replace hR := hR.kW hF10 (by simp only [s1, s2, s3, sG, sR, sRc]; omega)
    try replace sgI := sgI.kW hF10 (by simp only [s1, s2, s3, sG, sR, sRc]; omega)
    try replace hT1 := hT1.kW hF10 (by simp only [s1, s2, s3, sG, sR, sRc]; omega)
    try replace hG2 := hG2.kW hF10 (by simp only [s1, s2, s3, sG, sR, sRc]; omega)
    have hG10 := hG9.tr0 hF10 (fun r _ hr => by simp only [s1, s2, s3, sG, sR, sRc] at hr ⊢; omega)
    (repeat (first | with_reducible refine hx_bs ?_ | with_reducible refine hx_cs ?_ | with_reducible refine hx_t ?_ | with_reducible refine hx_f ?_ | ((conv => arg 1; arg 1; simp (disch := first | assumption | omega) only [xf_9_0 hx10, xf_9_1 hx10, xf_9_2 hx10, xf_9_3 hx10, xf_9_4 hx10, xf_9_5 hx10, xf_9_6 hx10, xf_9_7 hx10, xf_9_8 hx10, xf_9_9 hx10, xf_9_10 hx10, xf_9_11 hx10, xf_9_12 hx10, xf_9_13 hx10, xf_9_14 hx10, xf_9_15 hx10, xf_9_16 hx10, xf_5_1_45 hx10, xf_5_2_45 hx10, xf_5_1_50 hx10, xf_5_2_50 hx10, xf_5_1_55 hx10, xf_5_2_55 hx10, xf_5_1_60 hx10, xf_5_2_60 hx10, xk_18 hx10, xk_19 hx10, xk_21 hx10, xk_23 hx10, xk_25 hx10, xk_27 hx10, xk_29 hx10, xk_31 hx10, xk_33 hx10, xk_35 hx10, xk_37 hx10, xk_39 hx10, xk_41 hx10, xk_43 hx10, xk_45 hx10, xk_46 hx10, xk_48 hx10, xk_50 hx10, xk_51 hx10, xk_53 hx10, xk_55 hx10, xk_56 hx10, xk_58 hx10, xk_60 hx10, xk_61 hx10, xk_63 hx10, sgA.2, sgB.2, sgI.2, fx_n fsA, fx_d fsA, fx_i fsA, fx_p fsA, fx_k fsA, fx_kn fsA, fx_kd fsA, fx_n fsB, fx_d fsB, fx_i fsB, fx_p fsB, fx_k fsB, fx_kn fsB, fx_kd fsB, fx_n fsI, fx_d fsI, fx_i fsI, fx_p fsI, fx_k fsI, fx_kn fsI, fx_kd fsI, nb0, nb1]); first | with_reducible refine hx_bs ?_ | with_reducible refine hx_cs ?_ | with_reducible refine hx_t ?_ | with_reducible refine hx_f ?_ | with_reducible refine hx_nm ?_))); (try (conv => arg 1; arg 1; simp (disch := first | assumption | omega) only [xf_9_0 hx10, xf_9_1 hx10, xf_9_2 hx10, xf_9_3 hx10, xf_9_4 hx10, xf_9_5 hx10, xf_9_6 hx10, xf_9_7 hx10, xf_9_8 hx10, xf_9_9 hx10, xf_9_10 hx10, xf_9_11 hx10, xf_9_12 hx10, xf_9_13 hx10, xf_9_14 hx10, xf_9_15 hx10, xf_9_16 hx10, xf_5_1_45 hx10, xf_5_2_45 hx10, xf_5_1_50 hx10, xf_5_2_50 hx10, xf_5_1_55 hx10, xf_5_2_55 hx10, xf_5_1_60 hx10, xf_5_2_60 hx10, xk_18 hx10, xk_19 hx10, xk_21 hx10, xk_23 hx10, xk_25 hx10, xk_27 hx10, xk_29 hx10, xk_31 hx10, xk_33 hx10, xk_35 hx10, xk_37 hx10, xk_39 hx10, xk_41 hx10, xk_43 hx10, xk_45 hx10, xk_46 hx10, xk_48 hx10, xk_50 hx10, xk_51 hx10, xk_53 hx10, xk_55 hx10, xk_56 hx10, xk_58 hx10, xk_60 hx10, xk_61 hx10, xk_63 hx10, sgA.2, sgB.2, sgI.2, fx_n fsA, fx_d fsA, fx_i fsA, fx_p fsA, fx_k fsA, fx_kn fsA, fx_kd fsA, fx_n fsB, fx_d fsB, fx_i fsB, fx_p fsB, fx_k fsB, fx_kn fsB, fx_kd fsB, fx_n fsI, fx_d fsI, fx_i fsI, fx_p fsI, fx_k fsI, fx_kn fsI, fx_kd fsI, nb0, nb1]))
    refine Hx.bd (cw_setProduct hp10 hP1 hP2 hI3 (by omega) (by omega) (lt_bp (bp_dvd _ hd) (by omega)) (lt_bp (bp_dvd _ hd') (by omega))) (fun σ11 v11 h11 => ?_)
    obtain ⟨hF11, hD9⟩ := h11
    have hp11 := hF11.hp
    have hx11 := hx10.kW hF11
    replace fsA := fsA.kW hF11
    replace fsB := fsB.kW hF11
    replace fsI := fsI.kW hF11
    try replace sgA := sgA.kW hF11 (by simp only [s1, s2, s3, sG, sR, sRc]; omega)
    try replace sgB := sgB.kW hF11 (by simp only [s1, s2, s3, sG, sR, sRc]; omega)
    try replace hN := hN.kW hF11 (by simp only [s1, s2, s3, sG, sR, sRc]; omega)
    try replace hD := hD.kW hF11 (by simp only [s1, s2, s3, sG, sR, sRc]; omega)
    try replace hM := hM.kW hF11 (by simp only [s1, s2, s3, sG, sR, sRc]; omega)
    try replace hE := hE.kW hF11 (by simp only [s1, s2, s3, sG, sR, sRc]; omega)
    try replace hC := hC.kW hF11 (by simp only [s1, s2, s3, sG, sR, sRc]; omega)
    try replace hP1 := hP1.kW hF11 (by simp only [s1, s2, s3, sG, sR, sRc]; omega)
    try replace hP2 := hP2.kW hF11 (by simp only [s1, s2, s3, sG, sR, sRc]; omega)
    try replace hL := hL.kW hF11 (by simp only [s1, s2, s3, sG, sR, sRc]; omega)
    try replace hR := hR.kW hF11 (by simp only [s1, s2, s3, sG, sR, sRc]; omega)
    try replace sgI := sgI.kW hF11 (by simp only [s1, s2, s3, sG, sR, sRc]; omega)
    try replace hT1 := hT1.kW hF11 (by simp only [s1, s2, s3, sG, sR, sRc]; omega)
    try replace hG2 := hG2.kW hF11 (by simp only [s1, s2, s3, sG, sR, sRc]; omega)
    have hG11 := hG10.tr0 hF11 (fun r _ hr => by simp only [s1, s2, s3, sG, sR, sRc] at hr ⊢; omega)
    (repeat (first | with_reducible refine hx_bs ?_ | with_reducible refine hx_cs ?_ | with_reducible refine hx_t ?_ | with_reducible refine hx_f ?_ | ((conv => arg 1; arg 1; simp (disch := first | assumption | omega) only [xf_9_0 hx11, xf_9_1 hx11, xf_9_2 hx11, xf_9_3 hx11, xf_9_4 hx11, xf_9_5 hx11, xf_9_6 hx11, xf_9_7 hx11, xf_9_8 hx11, xf_9_9 hx11, xf_9_10 hx11, xf_9_11 hx11, xf_9_12 hx11, xf_9_13 hx11, xf_9_14 hx11, xf_9_15 hx11, xf_9_16 hx11, xf_5_1_45 hx11, xf_5_2_45 hx11, xf_5_1_50 hx11, xf_5_2_50 hx11, xf_5_1_55 hx11, xf_5_2_55 hx11, xf_5_1_60 hx11, xf_5_2_60 hx11, xk_18 hx11, xk_19 hx11, xk_21 hx11, xk_23 hx11, xk_25 hx11, xk_27 hx11, xk_29 hx11, xk_31 hx11, xk_33 hx11, xk_35 hx11, xk_37 hx11, xk_39 hx11, xk_41 hx11, xk_43 hx11, xk_45 hx11, xk_46 hx11, xk_48 hx11, xk_50 hx11, xk_51 hx11, xk_53 hx11, xk_55 hx11, xk_56 hx11, xk_58 hx11, xk_60 hx11, xk_61 hx11, xk_63 hx11, sgA.2, sgB.2, sgI.2, fx_n fsA, fx_d fsA, fx_i fsA, fx_p fsA, fx_k fsA, fx_kn fsA, fx_kd fsA, fx_n fsB, fx_d fsB, fx_i fsB, fx_p fsB, fx_k fsB, fx_kn fsB, fx_kd fsB, fx_n fsI, fx_d fsI, fx_i fsI, fx_p fsI, fx_k fsI, fx_kn fsI, fx_kd fsI, nb0, nb1]); first | with_reducible refine hx_bs ?_ | with_reducible refine hx_cs ?_ | with_reducible refine hx_t ?_ | with_reducible refine hx_f ?_ | with_reducible refine hx_nm ?_))); (try (conv => arg 1; arg 1; simp (disch := first | assumption | omega) only [xf_9_0 hx11, xf_9_1 hx11, xf_9_2 hx11, xf_9_3 hx11, xf_9_4 hx11, xf_9_5 hx11, xf_9_6 hx11, xf_9_7 hx11, xf_9_8 hx11, xf_9_9 hx11, xf_9_10 hx11, xf_9_11 hx11, xf_9_12 hx11, xf_9_13 hx11, xf_9_14 hx11, xf_9_15 hx11, xf_9_16 hx11, xf_5_1_45 hx11, xf_5_2_45 hx11, xf_5_1_50 hx11, xf_5_2_50 hx11, xf_5_1_55 hx11, xf_5_2_55 hx11, xf_5_1_60 hx11, xf_5_2_60 hx11, xk_18 hx11, xk_19 hx11, xk_21 hx11, xk_23 hx11, xk_25 hx11, xk_27 hx11, xk_29 hx11, xk_31 hx11, xk_33 hx11, xk_35 hx11, xk_37 hx11, xk_39 hx11, xk_41 hx11, xk_43 hx11, xk_45 hx11, xk_46 hx11, xk_48 hx11, xk_50 hx11, xk_51 hx11, xk_53 hx11, xk_55 hx11, xk_56 hx11, xk_58 hx11, xk_60 hx11, xk_61 hx11, xk_63 hx11, sgA.2, sgB.2, sgI.2, fx_n fsA, fx_d fsA, fx_i fsA, fx_p fsA, fx_k fsA, fx_kn fsA, fx_kd fsA, fx_n fsB, fx_d fsB, fx_i fsB, fx_p fsB, fx_k fsB, fx_kn fsB, fx_kd fsB, fx_n fsI, fx_d fsI, fx_i fsI, fx_p fsI, fx_k fsI, fx_kn fsI, fx_kd fsI, nb0, nb1]))
    exact Hx.ret ⟨hG11, _, key.symm, fsI, sgI, hT1, hD9⟩
  refine Hx.cs (fun c => ?_) (fun c => ?_)
  · rw [sm_eq (by omega) (by omega)] at c
    (repeat (first | with_reducible refine hx_bs ?_ | with_reducible refine hx_cs ?_ | with_reducible refine hx_t ?_ | with_reducible refine hx_f ?_ | ((conv => arg 1; arg 1; simp (disch := first | assumption | omega) only [xf_9_0 hx5, xf_9_1 hx5, xf_9_2 hx5, xf_9_3 hx5, xf_9_4 hx5, xf_9_5 hx5, xf_9_6 hx5, xf_9_7 hx5, xf_9_8 hx5, xf_9_9 hx5, xf_9_10 hx5, xf_9_11 hx5, xf_9_12 hx5, xf_9_13 hx5, xf_9_14 hx5, xf_9_15 hx5, xf_9_16 hx5, xf_5_1_45 hx5, xf_5_2_45 hx5, xf_5_1_50 hx5, xf_5_2_50 hx5, xf_5_1_55 hx5, xf_5_2_55 hx5, xf_5_1_60 hx5, xf_5_2_60 hx5, xk_18 hx5, xk_19 hx5, xk_21 hx5, xk_23 hx5, xk_25 hx5, xk_27 hx5, xk_29 hx5, xk_31 hx5, xk_33 hx5, xk_35 hx5, xk_37 hx5, xk_39 hx5, xk_41 hx5, xk_43 hx5, xk_45 hx5, xk_46 hx5, xk_48 hx5, xk_50 hx5, xk_51 hx5, xk_53 hx5, xk_55 hx5, xk_56 hx5, xk_58 hx5, xk_60 hx5, xk_61 hx5, xk_63 hx5, sgA.2, sgB.2, fx_n fsA, fx_d fsA, fx_i fsA, fx_p fsA, fx_k fsA, fx_kn fsA, fx_kd fsA, fx_n fsB, fx_d fsB, fx_i fsB, fx_p fsB, fx_k fsB, fx_kn fsB, fx_kd fsB, fx_n fsI, fx_d fsI, fx_i fsI, fx_p fsI, fx_k fsI, fx_kn fsI, fx_kd fsI, nb0, nb1]); first | with_reducible refine hx_bs ?_ | with_reducible refine hx_cs ?_ | with_reducible refine hx_t ?_ | with_reducible refine hx_f ?_ | with_reducible refine hx_nm ?_))); (try (conv => arg 1; arg 1; simp (disch := first | assumption | omega) only [xf_9_0 hx5, xf_9_1 hx5, xf_9_2 hx5, xf_9_3 hx5, xf_9_4 hx5, xf_9_5 hx5, xf_9_6 hx5, xf_9_7 hx5, xf_9_8 hx5, xf_9_9 hx5, xf_9_10 hx5, xf_9_11 hx5, xf_9_12 hx5, xf_9_13 hx5, xf_9_14 hx5, xf_9_15 hx5, xf_9_16 hx5, xf_5_1_45 hx5, xf_5_2_45 hx5, xf_5_1_50 hx5, xf_5_2_50 hx5, xf_5_1_55 hx5, xf_5_2_55 hx5, xf_5_1_60 hx5, xf_5_2_60 hx5, xk_18 hx5, xk_19 hx5, xk_21 hx5, xk_23 hx5, xk_25 hx5, xk_27 hx5, xk_29 hx5, xk_31 hx5, xk_33 hx5, xk_35 hx5, xk_37 hx5, xk_39 hx5, xk_41 hx5, xk_43 hx5, xk_45 hx5, xk_46 hx5, xk_48 hx5, xk_50 hx5, xk_51 hx5, xk_53 hx5, xk_55 hx5, xk_56 hx5, xk_58 hx5, xk_60 hx5, xk_61 hx5, xk_63 hx5, sgA.2, sgB.2, fx_n fsA, fx_d fsA, fx_i fsA, fx_p fsA, fx_k fsA, fx_kn fsA, fx_kd fsA, fx_n fsB, fx_d fsB, fx_i fsB, fx_p fsB, fx_k fsB, fx_kn fsB, fx_kd fsB, fx_n fsI, fx_d fsI, fx_i fsI, fx_p fsI, fx_k fsI, fx_kn fsI, fx_kd fsI, nb0, nb1]))
    rw [if_pos c] at hu
    exact hgo _ (by rw [hu])
  · rw [sm_eq (by omega) (by omega)] at c
    (repeat (first | with_reducible refine hx_bs ?_ | with_reducible refine hx_cs ?_ | with_reducible refine hx_t ?_ | with_reducible refine hx_f ?_ | ((conv => arg 1; arg 1; simp (disch := first | assumption | omega) only [xf_9_0 hx5, xf_9_1 hx5, xf_9_2 hx5, xf_9_3 hx5, xf_9_4 hx5, xf_9_5 hx5, xf_9_6 hx5, xf_9_7 hx5, xf_9_8 hx5, xf_9_9 hx5, xf_9_10 hx5, xf_9_11 hx5, xf_9_12 hx5, xf_9_13 hx5, xf_9_14 hx5, xf_9_15 hx5, xf_9_16 hx5, xf_5_1_45 hx5, xf_5_2_45 hx5, xf_5_1_50 hx5, xf_5_2_50 hx5, xf_5_1_55 hx5, xf_5_2_55 hx5, xf_5_1_60 hx5, xf_5_2_60 hx5, xk_18 hx5, xk_19 hx5, xk_21 hx5, xk_23 hx5, xk_25 hx5, xk_27 hx5, xk_29 hx5, xk_31 hx5, xk_33 hx5, xk_35 hx5, xk_37 hx5, xk_39 hx5, xk_41 hx5, xk_43 hx5, xk_45 hx5, xk_46 hx5, xk_48 hx5, xk_50 hx5, xk_51 hx5, xk_53 hx5, xk_55 hx5, xk_56 hx5, xk_58 hx5, xk_60 hx5, xk_61 hx5, xk_63 hx5, sgA.2, sgB.2, fx_n fsA, fx_d fsA, fx_i fsA, fx_p fsA, fx_k fsA, fx_kn fsA, fx_kd fsA, fx_n fsB, fx_d fsB, fx_i fsB, fx_p fsB, fx_k fsB, fx_kn fsB, fx_kd fsB, fx_n fsI, fx_d fsI, fx_i fsI, fx_p fsI, fx_k fsI, fx_kn fsI, fx_kd fsI, nb0, nb1]); first | with_reducible refine hx_bs ?_ | with_reducible refine hx_cs ?_ | with_reducible refine hx_t ?_ | with_reducible refine hx_f ?_ | with_reducible refine hx_nm ?_))); (try (conv => arg 1; arg 1; simp (disch := first | assumption | omega) only [xf_9_0 hx5, xf_9_1 hx5, xf_9_2 hx5, xf_9_3 hx5, xf_9_4 hx5, xf_9_5 hx5, xf_9_6 hx5, xf_9_7 hx5, xf_9_8 hx5, xf_9_9 hx5, xf_9_10 hx5, xf_9_11 hx5, xf_9_12 hx5, xf_9_13 hx5, xf_9_14 hx5, xf_9_15 hx5, xf_9_16 hx5, xf_5_1_45 hx5, xf_5_2_45 hx5, xf_5_1_50 hx5, xf_5_2_50 hx5, xf_5_1_55 hx5, xf_5_2_55 hx5, xf_5_1_60 hx5, xf_5_2_60 hx5, xk_18 hx5, xk_19 hx5, xk_21 hx5, xk_23 hx5, xk_25 hx5, xk_27 hx5, xk_29 hx5, xk_31 hx5, xk_33 hx5, xk_35 hx5, xk_37 hx5, xk_39 hx5, xk_41 hx5, xk_43 hx5, xk_45 hx5, xk_46 hx5, xk_48 hx5, xk_50 hx5, xk_51 hx5, xk_53 hx5, xk_55 hx5, xk_56 hx5, xk_58 hx5, xk_60 hx5, xk_61 hx5, xk_63 hx5, sgA.2, sgB.2, fx_n fsA, fx_d fsA, fx_i fsA, fx_p fsA, fx_k fsA, fx_kn fsA, fx_kd fsA, fx_n fsB, fx_d fsB, fx_i fsB, fx_p fsB, fx_k fsB, fx_kn fsB, fx_kd fsB, fx_n fsI, fx_d fsI, fx_i fsI, fx_p fsI, fx_k fsI, fx_kn fsI, fx_kd fsI, nb0, nb1]))
    rw [if_neg c] at hu
    exact hgo _ (by rw [hu, iz_neg])
theorem cr_multiply {x a b into n d n' d' : Nat} {s t : Int} {σ : St} (hp : HP (PX x) σ) (hx : XS σ x) (hA : FX σ a s n d) (hB : FX σ b t n' d') (fsI : FS σ into) (hI : into + 1 ∈ PX x) (hI3 : into + 3 ∈ PX x) (hia : into ≠ a) (hib : into ≠ b) (hax : x + 40 < a ∨ a + 3 < x + 19) (hbx : x + 40 < b ∨ b + 3 < x + 19) (hix : x + 40 < into)
    (hn : sml (n) 200) (hd : sml (d) 200) (hn' : sml (n') 200) (hd' : sml (d') 200) (h0 : 0 < d) (h0' : 0 < d') (c1 : Nat.gcd n d = 1) (c2 : Nat.gcd n' d' = 1) :
    Hx (fX5_multiply σ (x + 18) a b into) (fun σ' _ => cW x (sR x into) 0 0 σ σ' ∧ ∃ q : Qv, q = qmk (s * t) (n * n') (d * d') ∧ FX σ' into q.1 q.2.1 q.2.2) := by
  obtain ⟨fsA, sgA, hN, hD⟩ := hA
  obtain ⟨fsB, sgB, hM, hE⟩ := hB
  have nea := fsI.ne fsA hia
  have neb := fsI.ne fsB hib
  have key := mul_qmk (s := s * t) h0 h0' c1 c2 _ _ rfl rfl
  rw [n_fX5_multiply]
  have hG := cW.rf (S := (sR x into)) hp
  (repeat (first | with_reducible refine hx_bs ?_ | with_reducible refine hx_cs ?_ | with_reducible refine hx_t ?_ | with_reducible refine hx_f ?_ | ((conv => arg 1; arg 1; simp (disch := first | assumption | omega) only [xf_9_0 hx, xf_9_1 hx, xf_9_2 hx, xf_9_3 hx, xf_9_4 hx, xf_9_5 hx, xf_9_6 hx, xf_9_7 hx, xf_9_8 hx, xf_9_9 hx, xf_9_10 hx, xf_9_11 hx, xf_9_12 hx, xf_9_13 hx, xf_9_14 hx, xf_9_15 hx, xf_9_16 hx, xf_5_1_45 hx, xf_5_2_45 hx, xf_5_1_50 hx, xf_5_2_50 hx, xf_5_1_55 hx, xf_5_2_55 hx, xf_5_1_60 hx, xf_5_2_60 hx, xk_18 hx, xk_19 hx, xk_21 hx, xk_23 hx, xk_25 hx, xk_27 hx, xk_29 hx, xk_31 hx, xk_33 hx, xk_35 hx, xk_37 hx, xk_39 hx, xk_41 hx, xk_43 hx, xk_45 hx, xk_46 hx, xk_48 hx, xk_50 hx, xk_51 hx, xk_53 hx, xk_55 hx, xk_56 hx, xk_58 hx, xk_60 hx, xk_61 hx, xk_63 hx, sgA.2, sgB.2, fx_n fsA, fx_d fsA, fx_i fsA, fx_p fsA, fx_k fsA, fx_kn fsA, fx_kd fsA, fx_n fsB, fx_d fsB, fx_i fsB, fx_p fsB, fx_k fsB, fx_kn fsB, fx_kd fsB, fx_n fsI, fx_d fsI, fx_i fsI, fx_p fsI, fx_k fsI, fx_kn fsI, fx_kd fsI, nb0, nb1]); first | with_reducible refine hx_bs ?_ | with_reducible refine hx_cs ?_ | with_reducible refine hx_t ?_ | with_reducible refine hx_f ?_ | with_reducible refine hx_nm ?_))); (try (conv => arg 1; arg 1; simp (disch := first | assumption | omega) only [xf_9_0 hx, xf_9_1 hx, xf_9_2 hx, xf_9_3 hx, xf_9_4 hx, xf_9_5 hx, xf_9_6 hx, xf_9_7 hx, xf_9_8 hx, xf_9_9 hx, xf_9_10 hx, xf_9_11 hx, xf_9_12 hx, xf_9_13 hx, xf_9_14 hx, xf_9_15 hx, xf_9_16 hx, xf_5_1_45 hx, xf_5_2_45 hx, xf_5_1_50 hx, xf_5_2_50 hx, xf_5_1_55 hx, xf_5_2_55 hx, xf_5_1_60 hx, xf_5_2_60 hx, xk_18 hx, xk_19 hx, xk_21 hx, xk_23 hx, xk_25 hx, xk_27 hx, xk_29 hx, xk_31 hx, xk_33 hx, xk_35 hx, xk_37 hx, xk_39 hx, xk_41 hx, xk_43 hx, xk_45 hx, xk_46 hx, xk_48 hx, xk_50 hx, xk_51 hx, xk_53 hx, xk_55 hx, xk_56 hx, xk_58 hx, xk_60 hx, xk_61 hx, xk_63 hx, sgA.2, sgB.2, fx_n fsA, fx_d fsA, fx_i fsA, fx_p fsA, fx_k fsA, fx_kn fsA, fx_kd fsA, fx_n fsB, fx_d fsB, fx_i fsB, fx_p fsB, fx_k fsB, fx_kn fsB, fx_kd fsB, fx_n fsI, fx_d fsI, fx_i fsI, fx_p fsI, fx_k fsI, fx_kn fsI, fx_kd fsI, nb0, nb1]))
  refine Hx.bd (cw_gcd hp hx hN hE (show x + 29 ∈ PX x by simp) (by omega) (by omega) (lt_bp hn (by omega)) (lt_bp hd' (by omega))) (fun σ1 v1 h1 => ?_)
  obtain ⟨hF1, hC⟩ := h1
  have hp1 := hF1.hp
  have hx1 := hx.kW hF1
  replace fsA := fsA.kW hF1
  replace fsB := fsB.kW hF1
  replace fsI := fsI.kW hF1
  try replace sgA := sgA.kW hF1 (by simp only [s1, s2, s3, sG, sR, sRc]; omega)
  try replace sgB := sgB.kW hF1 (by simp only [s1, s2, s3, sG, sR, sRc]; omega)
  try replace hN := hN.kW hF1 (by simp only [s1, s2, s3, sG, sR, sRc]; omega)
  try replace hD := hD.kW hF1 (by simp only [s1, s2, s3, sG, sR, sRc]; omega)
  try replace hM := hM.kW hF1 (by simp only [s1, s2, s3, sG, sR, sRc]; omega)
  try replace hE := hE.kW hF1 (by simp only [s1, s2, s3, sG, sR, sRc]; omega)
  have hG1 := hG.tr0 hF1 (fun r _ hr => by simp only [s1, s2, s3, sG, sR, sRc] at hr ⊢; omega)
  (repeat (first | with_reducible refine hx_bs ?_ | with_reducible refine hx_cs ?_ | with_reducible refine hx_t ?_ | with_reducible refine hx_f ?_ | ((conv => arg 1; arg 1; simp (disch := first | assumption | omega) only [xf_9_0 hx1, xf_9_1 hx1, xf_9_2 hx1, xf_9_3 hx1, xf_9_4 hx1, xf_9_5 hx1, xf_9_6 hx1, xf_9_7 hx1, xf_9_8 hx1, xf_9_9 hx1, xf_9_10 hx1, xf_9_11 hx1, xf_9_12 hx1, xf_9_13 hx1, xf_9_14 hx1, xf_9_15 hx1, xf_9_16 hx1, xf_5_1_45 hx1, xf_5_2_45 hx1, xf_5_1_50 hx1, xf_5_2_50 hx1, xf_5_1_55 hx1, xf_5_2_55 hx1, xf_5_1_60 hx1, xf_5_2_60 hx1, xk_18 hx1, xk_19 hx1, xk_21 hx1, xk_23 hx1, xk_25 hx1, xk_27 hx1, xk_29 hx1, xk_31 hx1, xk_33 hx1, xk_35 hx1, xk_37 hx1, xk_39 hx1, xk_41 hx1, xk_43 hx1, xk_45 hx1, xk_46 hx1, xk_48 hx1, xk_50 hx1, xk_51 hx1, xk_53 hx1, xk_55 hx1, xk_56 hx1, xk_58 hx1, xk_60 hx1, xk_61 hx1, xk_63 hx1, sgA.2, sgB.2, fx_n fsA, fx_d fsA, fx_i fsA, fx_p fsA, fx_k fsA, fx_kn fsA, fx_kd fsA, fx_n fsB, fx_d fsB, fx_i fsB, fx_p fsB, fx_k fsB, fx_kn fsB, fx_kd fsB, fx_n fsI, fx_d fsI, fx_i fsI, fx_p fsI, fx_k fsI, fx_kn fsI, fx_kd fsI, nb0, nb1]); first | with_reducible refine hx_bs ?_ | with_reducible refine hx_cs ?_ | with_reducible refine hx_t ?_ | with_reducible refine hx_f ?_ | with_reducible refine hx_nm ?_))); (try (conv => arg 1; arg 1; simp (disch := first | assumption | omega) only [xf_9_0 hx1, xf_9_1 hx1, xf_9_2 hx1, xf_9_3 hx1, xf_9_4 hx1, xf_9_5 hx1, xf_9_6 hx1, xf_9_7 hx1, xf_9_8 hx1, xf_9_9 hx1, xf_9_10 hx1, xf_9_11 hx1, xf_9_12 hx1, xf_9_13 hx1, xf_9_14 hx1, xf_9_15 hx1, xf_9_16 hx1, xf_5_1_45 hx1, xf_5_2_45 hx1, xf_5_1_50 hx1, xf_5_2_50 hx1, xf_5_1_55 hx1, xf_5_2_55 hx1, xf_5_1_60 hx1, xf_5_2_60 hx1, xk_18 hx1, xk_19 hx1, xk_21 hx1, xk_23 hx1, xk_25 hx1, xk_27 hx1, xk_29 hx1, xk_31 hx1, xk_33 hx1, xk_35 hx1, xk_37 hx1, xk_39 hx1, xk_41 hx1, xk_43 hx1, xk_45 hx1, xk_46 hx1, xk_48 hx1, xk_50 hx1, xk_51 hx1, xk_53 hx1, xk_55 hx1, xk_56 hx1, xk_58 hx1, xk_60 hx1, xk_61 hx1, xk_63 hx1, sgA.2, sgB.2, fx_n fsA, fx_d fsA, fx_i fsA, fx_p fsA, fx_k fsA, fx_kn fsA, fx_kd fsA, fx_n fsB, fx_d fsB, fx_i fsB, fx_p fsB, fx_k fsB, fx_kn fsB, fx_kd fsB, fx_n fsI, fx_d fsI, fx_i fsI, fx_p fsI, fx_k fsI, fx_kn fsI, fx_kd fsI, nb0, nb1]))
  refine Hx.bd (cw_gcd hp1 hx1 hM hD (show x + 31 ∈ PX x by simp) (by omega) (by omega) (lt_bp hn' (by omega)) (lt_bp hd (by omega))) (fun σ2 v2 h2 => ?_)
  obtain ⟨hF2, hH⟩ := h2
  have hp2 := hF2.hp
  have hx2 := hx1.kW hF2
  replace fsA := fsA.kW hF2
  replace fsB := fsB.kW hF2
  replace fsI := fsI.kW hF2
  try replace sgA := sgA.kW hF2 (by simp only [s1, s2, s3, sG, sR, sRc]; omega)
  try replace sgB := sgB.kW hF2 (by simp only [s1, s2, s3, sG, sR, sRc]; omega)
  try replace hN := hN.kW hF2 (by simp only [s1, s2, s3, sG, sR, sRc]; omega)
  try replace hD := hD.kW hF2 (by simp only [s1, s2, s3, sG, sR, sRc]; omega)
  try replace hM := hM.kW hF2 (by simp only [s1, s2, s3, sG, sR, sRc]; omega)
  try replace hE := hE.kW hF2 (by simp only [s1, s2, s3, sG, sR, sRc]; omega)
  try replace hC := hC.kW hF2 (by simp only [s1, s2, s3, sG, sR, sRc]; omega)
  have hG2 := hG1.tr0 hF2 (fun r _ hr => by simp only [s1, s2, s3, sG, sR, sRc] at hr ⊢; omega)
  (repeat (first | with_reducible refine hx_bs ?_ | with_reducible refine hx_cs ?_ | with_reducible refine hx_t ?_ | with_reducible refine hx_f ?_ | ((conv => arg 1; arg 1; simp (disch := first | assumption | omega) only [xf_9_0 hx2, xf_9_1 hx2, xf_9_2 hx2, xf_9_3 hx2, xf_9_4 hx2, xf_9_5 hx2, xf_9_6 hx2, xf_9_7 hx2, xf_9_8 hx2, xf_9_9 hx2, xf_9_10 hx2, xf_9_11 hx2, xf_9_12 hx2, xf_9_13 hx2, xf_9_14 hx2, xf_9_15 hx2, xf_9_16 hx2, xf_5_1_45 hx2, xf_5_2_45 hx2, xf_5_1_50 hx2, xf_5_2_50 hx2, xf_5_1_55 hx2, xf_5_2_55 hx2, xf_5_1_60 hx2, xf_5_2_60 hx2, xk_18 hx2, xk_19 hx2, xk_21 hx2, xk_23 hx2, xk_25 hx2, xk_27 hx2, xk_29 hx2, xk_31 hx2, xk_33 hx2, xk_35 hx2, xk_37 hx2, xk_39 hx2, xk_41 hx2, xk_43 hx2, xk_45 hx2, xk_46 hx2, xk_48 hx2, xk_50 hx2, xk_51 hx2, xk_53 hx2, xk_55 hx2, xk_56 hx2, xk_58 hx2, xk_60 hx2, xk_61 hx2, xk_63 hx2, sgA.2, sgB.2, fx_n fsA, fx_d fsA, fx_i fsA, fx_p fsA, fx_k fsA, fx_kn fsA, fx_kd fsA, fx_n fsB, fx_d fsB, fx_i fsB, fx_p fsB, fx_k fsB, fx_kn fsB, fx_kd fsB, fx_n fsI, fx_d fsI, fx_i fsI, fx_p fsI, fx_k fsI, fx_kn fsI, fx_kd fsI, nb0, nb1]); first | with_reducible refine hx_bs ?_ | with_reducible refine hx_cs ?_ | with_reducible refine hx_t ?_ | with_reducible refine hx_f ?_ | with_reducible refine hx_nm ?_))); (try (conv => arg 1; arg 1; simp (disch := first | assumption | omega) only [xf_9_0 hx2, xf_9_1 hx2, xf_9_2 hx2, xf_9_3 hx2, xf_9_4 hx2, xf_9_5 hx2, xf_9_6 hx2, xf_9_7 hx2, xf_9_8 hx2, xf_9_9 hx2, xf_9_10 hx2, xf_9_11 hx2, xf_9_12 hx2, xf_9_13 hx2, xf_9_14 hx2, xf_9_15 hx2, xf_9_16 hx2, xf_5_1_45 hx2, xf_5_2_45 hx2, xf_5_1_50 hx2, xf_5_2_50 hx2, xf_5_1_55 hx2, xf_5_2_55 hx2, xf_5_1_60 hx2, xf_5_2_60 hx2, xk_18 hx2, xk_19 hx2, xk_21 hx2, xk_23 hx2, xk_25 hx2, xk_27 hx2, xk_29 hx2, xk_31 hx2, xk_33 hx2, xk_35 hx2, xk_37 hx2, xk_39 hx2, xk_41 hx2, xk_43 hx2, xk_45 hx2, xk_46 hx2, xk_48 hx2, xk_50 hx2, xk_51 hx2, xk_53 hx2, xk_55 hx2, xk_56 hx2, xk_58 hx2, xk_60 hx2, xk_61 hx2, xk_63 hx2, sgA.2, sgB.2, fx_n fsA, fx_d fsA, fx_i fsA, fx_p fsA, fx_k fsA, fx_kn fsA, fx_kd fsA, fx_n fsB, fx_d fsB, fx_i fsB, fx_p fsB, fx_k fsB, fx_kn fsB, fx_kd fsB, fx_n fsI, fx_d fsI, fx_i fsI, fx_p fsI, fx_k fsI, fx_kn fsI, fx_kd fsI, nb0, nb1]))
  refine Hx.bd (cw_divide hp2 hx2 hN hC (show x + 33 ∈ PX x by simp) (show x + 23 ∈ PX x by simp) (lt_bp hn (by omega)) (by omega)) (fun σ3 v3 h3 => ?_)
  obtain ⟨hF3, hP1, _⟩ := h3
  have hp3 := hF3.hp
  have hx3 := hx2.kW hF3
  replace fsA := fsA.kW hF3
  replace fsB := fsB.kW hF3
  replace fsI := fsI.kW hF3
  try replace sgA := sgA.kW hF3 (by simp only [s1, s2, s3, sG, sR, sRc]; omega)
  try replace sgB := sgB.kW hF3 (by simp only [s1, s2, s3, sG, sR, sRc]; omega)
  try replace hN := hN.kW hF3 (by simp only [s1, s2, s3, sG, sR, sRc]; omega)
  try replace hD := hD.kW hF3 (by simp only [s1, s2, s3, sG, sR, sRc]; omega)
  try replace hM := hM.kW hF3 (by simp only [s1, s2, s3, sG, sR, sRc]; omega)
  try replace hE := hE.kW hF3 (by simp only [s1, s2, s3, sG, sR, sRc]; omega)
  try replace hC := hC.kW hF3 (by simp only [s1, s2, s3, sG, sR, sRc]; omega)
  try replace hH := hH.kW hF3 (by simp only [s1, s2, s3, sG, sR, sRc]; omega)
  have hG3 := hG2.tr0 hF3 (fun r _ hr => by simp only [s1, s2, s3, sG, sR, sRc] at hr ⊢; omega)
  (repeat (first | with_reducible refine hx_bs ?_ | with_reducible refine hx_cs ?_ | with_reducible refine hx_t ?_ | with_reducible refine hx_f ?_ | ((conv => arg 1; arg 1; simp (disch := first | assumption | omega) only [xf_9_0 hx3, xf_9_1 hx3, xf_9_2 hx3, xf_9_3 hx3, xf_9_4 hx3, xf_9_5 hx3, xf_9_6 hx3, xf_9_7 hx3, xf_9_8 hx3, xf_9_9 hx3, xf_9_10 hx3, xf_9_11 hx3, xf_9_12 hx3, xf_9_13 hx3, xf_9_14 hx3, xf_9_15 hx3, xf_9_16 hx3, xf_5_1_45 hx3, xf_5_2_45 hx3, xf_5_1_50 hx3, xf_5_2_50 hx3, xf_5_1_55 hx3, xf_5_2_55 hx3, xf_5_1_60 hx3, xf_5_2_60 hx3, xk_18 hx3, xk_19 hx3, xk_21 hx3, xk_23 hx3, xk_25 hx3, xk_27 hx3, xk_29 hx3, xk_31 hx3, xk_33 hx3, xk_35 hx3, xk_37 hx3, xk_39 hx3, xk_41 hx3, xk_43 hx3, xk_45 hx3, xk_46 hx3, xk_48 hx3, xk_50 hx3, xk_51 hx3, xk_53 hx3, xk_55 hx3, xk_56 hx3, xk_58 hx3, xk_60 hx3, xk_61 hx3, xk_63 hx3, sgA.2, sgB.2, fx_n fsA, fx_d fsA, fx_i fsA, fx_p fsA, fx_k fsA, fx_kn fsA, fx_kd fsA, fx_n fsB, fx_d fsB, fx_i fsB, fx_p fsB, fx_k fsB, fx_kn fsB, fx_kd fsB, fx_n fsI, fx_d fsI, fx_i fsI, fx_p fsI, fx_k fsI, fx_kn fsI, fx_kd fsI, nb0, nb1]); first | with_reducible refine hx_bs ?_ | with_reducible refine hx_cs ?_ | with_reducible refine hx_t ?_ | with_reducible refine hx_f ?_ | with_reducible refine hx_nm ?_))); (try (conv => arg 1; arg 1; simp (disch := first | assumption | omega) only [xf_9_0 hx3, xf_9_1 hx3, xf_9_2 hx3, xf_9_3 hx3, xf_9_4 hx3, xf_9_5 hx3, xf_9_6 hx3, xf_9_7 hx3, xf_9_8 hx3, xf_9_9 hx3, xf_9_10 hx3, xf_9_11 hx3, xf_9_12 hx3, xf_9_13 hx3, xf_9_14 hx3, xf_9_15 hx3, xf_9_16 hx3, xf_5_1_45 hx3, xf_5_2_45 hx3, xf_5_1_50 hx3, xf_5_2_50 hx3, xf_5_1_55 hx3, xf_5_2_55 hx3, xf_5_1_60 hx3, xf_5_2_60 hx3, xk_18 hx3, xk_19 hx3, xk_21 hx3, xk_23 hx3, xk_25 hx3, xk_27 hx3, xk_29 hx3, xk_31 hx3, xk_33 hx3, xk_35 hx3, xk_37 hx3, xk_39 hx3, xk_41 hx3, xk_43 hx3, xk_45 hx3, xk_46 hx3, xk_48 hx3, xk_50 hx3, xk_51 hx3, xk_53 hx3, xk_55 hx3, xk_56 hx3, xk_58 hx3, xk_60 hx3, xk_61 hx3, xk_63 hx3, sgA.2, sgB.2, fx_n fsA, fx_d fsA, fx_i fsA, fx_p fsA, fx_k fsA, fx_kn fsA, fx_kd fsA, fx_n fsB, fx_d fsB, fx_i fsB, fx_p fsB, fx_k fsB, fx_kn fsB, fx_kd fsB, fx_n fsI, fx_d fsI, fx_i fsI, fx_p fsI, fx_k fsI, fx_kn fsI, fx_kd fsI, nb0, nb1]))
  refine Hx.bd (cw_divide hp3 hx3 hM hH (show x + 35 ∈ PX x by simp) (show x + 23 ∈ PX x by simp) (lt_bp hn' (by omega)) (by omega)) (fun σ4 v4 h4 => ?_)
  obtain ⟨hF4, hP2, _⟩ := h4
  have hp4 := hF4.hp
  have hx4 := hx3.kW hF4
  replace fsA := fsA.kW hF4
  replace fsB := fsB.kW hF4
  replace fsI := fsI.kW hF4
  try replace sgA := sgA.kW hF4 (by simp only [s1, s2, s3, sG, sR, sRc]; omega)
  try replace sgB := sgB.kW hF4 (by simp only [s1, s2, s3, sG, sR, sRc]; omega)
  try replace hN := hN.kW hF4 (by simp only [s1, s2, s3, sG, sR, sRc]; omega)
  try replace hD := hD.kW hF4 (by simp only [s1, s2, s3, sG, sR, sRc]; omega)
  try replace hM := hM.kW hF4 (by simp only [s1, s2, s3, sG, sR, sRc]; omega)
  try replace hE := hE.kW hF4 (by simp only [s1, s2, s3, sG, sR, sRc]; omega)
  try replace hC := hC.kW hF4 (by simp only [s1, s2, s3, sG, sR, sRc]; omega)
  try replace hH := hH.kW hF4 (by simp only [s1, s2, s3, sG, sR, sRc]; omega)
  try replace hP1 := hP1.kW hF4 (by simp only [s1, s2, s3, sG, sR, sRc]; omega)
  have hG4 := hG3.tr0 hF4 (fun r _ hr => by simp only [s1, s2, s3, sG, sR, sRc] at hr ⊢; omega)
  (repeat (first | with_reducible refine hx_bs ?_ | with_reducible refine hx_cs ?_ | with_reducible refine hx_t ?_ | with_reducible refine hx_f ?_ | ((conv => arg 1; arg 1; simp (disch := first | assumption | omega) only [xf_9_0 hx4, xf_9_1 hx4, xf_9_2 hx4, xf_9_3 hx4, xf_9_4 hx4, xf_9_5 hx4, xf_9_6 hx4, xf_9_7 hx4, xf_9_8 hx4, xf_9_9 hx4, xf_9_10 hx4, xf_9_11 hx4, xf_9_12 hx4, xf_9_13 hx4, xf_9_14 hx4, xf_9_15 hx4, xf_9_16 hx4, xf_5_1_45 hx4, xf_5_2_45 hx4, xf_5_1_50 hx4, xf_5_2_50 hx4, xf_5_1_55 hx4, xf_5_2_55 hx4, xf_5_1_60 hx4, xf_5_2_60 hx4, xk_18 hx4, xk_19 hx4, xk_21 hx4, xk_23 hx4, xk_25 hx4, xk_27 hx4, xk_29 hx4, xk_31 hx4, xk_33 hx4, xk_35 hx4, xk_37 hx4, xk_39 hx4, xk_41 hx4, xk_43 hx4, xk_45 hx4, xk_46 hx4, xk_48 hx4, xk_50 hx4, xk_51 hx4, xk_53 hx4, xk_55 hx4, xk_56 hx4, xk_58 hx4, xk_60 hx4, xk_61 hx4, xk_63 hx4, sgA.2, sgB.2, fx_n fsA, fx_d fsA, fx_i fsA, fx_p fsA, fx_k fsA, fx_kn fsA, fx_kd fsA, fx_n fsB, fx_d fsB, fx_i fsB, fx_p fsB, fx_k fsB, fx_kn fsB, fx_kd fsB, fx_n fsI, fx_d fsI, fx_i fsI, fx_p fsI, fx_k fsI, fx_kn fsI, fx_kd fsI, nb0, nb1]); first | with_reducible refine hx_bs ?_ | with_reducible refine hx_cs ?_ | with_reducible refine hx_t ?_ | with_reducible refine hx_f ?_ | with_reducible refine hx_nm ?_))); (try (conv => arg 1; arg 1; simp (disch := first | assumption | omega) only [xf_9_0 hx4, xf_9_1 hx4, xf_9_2 hx4, xf_9_3 hx4, xf_9_4 hx4, xf_9_5 hx4, xf_9_6 hx4, xf_9_7 hx4, xf_9_8 hx4, xf_9_9 hx4, xf_9_10 hx4, xf_9_11 hx4, xf_9_12 hx4, xf_9_13 hx4, xf_9_14 hx4, xf_9_15 hx4, xf_9_16 hx4, xf_5_1_45 hx4, xf_5_2_45 hx4, xf_5_1_50 hx4, xf_5_2_50 hx4, xf_5_1_55 hx4, xf_5_2_55 hx4, xf_5_1_60 hx4, xf_5_2_60 hx4, xk_18 hx4, xk_19 hx4, xk_21 hx4, xk_23 hx4, xk_25 hx4, xk_27 hx4, xk_29 hx4, xk_31 hx4, xk_33 hx4, xk_35 hx4, xk_37 hx4, xk_39 hx4, xk_41 hx4, xk_43 hx4, xk_45 hx4, xk_46 hx4, xk_48 hx4, xk_50 hx4, xk_51 hx4, xk_53 hx4, xk_55 hx4, xk_56 hx4, xk_58 hx4, xk_60 hx4, xk_61 hx4, xk_63 hx4, sgA.2, sgB.2, fx_n fsA, fx_d fsA, fx_i fsA, fx_p fsA, fx_k fsA, fx_kn fsA, fx_kd fsA, fx_n fsB, fx_d fsB, fx_i fsB, fx_p fsB, fx_k fsB, fx_kn fsB, fx_kd fsB, fx_n fsI, fx_d fsI, fx_i fsI, fx_p fsI, fx_k fsI, fx_kn fsI, fx_kd fsI, nb0, nb1]))
  refine Hx.bd (cw_setProduct hp4 hP1 hP2 hI (by omega) (by omega) (lt_bp (bp_dvd _ hn) (by omega)) (lt_bp (bp_dvd _ hn') (by omega))) (fun σ5 v5 h5 => ?_)
  obtain ⟨hF5, hQ⟩ := h5
  have hp5 := hF5.hp
  have hx5 := hx4.kW hF5
  replace fsA := fsA.kW hF5
  replace fsB := fsB.kW hF5
  replace fsI := fsI.kW hF5
  try replace sgA := sgA.kW hF5 (by simp only [s1, s2, s3, sG, sR, sRc]; omega)
  try replace sgB := sgB.kW hF5 (by simp only [s1, s2, s3, sG, sR, sRc]; omega)
  try replace hN := hN.kW hF5 (by simp only [s1, s2, s3, sG, sR, sRc]; omega)
  try replace hD := hD.kW hF5 (by simp only [s1, s2, s3, sG, sR, sRc]; omega)
  try replace hM := hM.kW hF5 (by simp only [s1, s2, s3, sG, sR, sRc]; omega)
  try replace hE := hE.kW hF5 (by simp only [s1, s2, s3, sG, sR, sRc]; omega)
  try replace hC := hC.kW hF5 (by simp only [s1, s2, s3, sG, sR, sRc]; omega)
  try replace hH := hH.kW hF5 (by simp only [s1, s2, s3, sG, sR, sRc]; omega)
  try replace hP1 := hP1.kW hF5 (by simp only [s1, s2, s3, sG, sR, sRc]; omega)
  try replace hP2 := hP2.kW hF5 (by simp only [s1, s2, s3, sG, sR, sRc]; omega)
  have hG5 := hG4.tr0 hF5 (fun r _ hr => by simp only [s1, s2, s3, sG, sR, sRc] at hr ⊢; omega)
  (repeat (first | with_reducible refine hx_bs ?_ | with_reducible refine hx_cs ?_ | with_reducible refine hx_t ?_ | with_reducible refine hx_f ?_ | ((conv => arg 1; arg 1; simp (disch := first | assumption | omega) only [xf_9_0 hx5, xf_9_1 hx5, xf_9_2 hx5, xf_9_3 hx5, xf_9_4 hx5, xf_9_5 hx5, xf_9_6 hx5, xf_9_7 hx5, xf_9_8 hx5, xf_9_9 hx5, xf_9_10 hx5, xf_9_11 hx5, xf_9_12 hx5, xf_9_13 hx5, xf_9_14 hx5, xf_9_15 hx5, xf_9_16 hx5, xf_5_1_45 hx5, xf_5_2_45 hx5, xf_5_1_50 hx5, xf_5_2_50 hx5, xf_5_1_55 hx5, xf_5_2_55 hx5, xf_5_1_60 hx5, xf_5_2_60 hx5, xk_18 hx5, xk_19 hx5, xk_21 hx5, xk_23 hx5, xk_25 hx5, xk_27 hx5, xk_29 hx5, xk_31 hx5, xk_33 hx5, xk_35 hx5, xk_37 hx5, xk_39 hx5, xk_41 hx5, xk_43 hx5, xk_45 hx5, xk_46 hx5, xk_48 hx5, xk_50 hx5, xk_51 hx5, xk_53 hx5, xk_55 hx5, xk_56 hx5, xk_58 hx5, xk_60 hx5, xk_61 hx5, xk_63 hx5, sgA.2, sgB.2, fx_n fsA, fx_d fsA, fx_i fsA, fx_p fsA, fx_k fsA, fx_kn fsA, fx_kd fsA, fx_n fsB, fx_d fsB, fx_i fsB, fx_p fsB, fx_k fsB, fx_kn fsB, fx_kd fsB, fx_n fsI, fx_d fsI, fx_i fsI, fx_p fsI, fx_k fsI, fx_kn fsI, fx_kd fsI, nb0, nb1]); first | with_reducible refine hx_bs ?_ | with_reducible refine hx_cs ?_ | with_reducible refine hx_t ?_ | with_reducible refine hx_f ?_ | with_reducible refine hx_nm ?_))); (try (conv => arg 1; arg 1; simp (disch := first | assumption | omega) only [xf_9_0 hx5, xf_9_1 hx5, xf_9_2 hx5, xf_9_3 hx5, xf_9_4 hx5, xf_9_5 hx5, xf_9_6 hx5, xf_9_7 hx5, xf_9_8 hx5, xf_9_9 hx5, xf_9_10 hx5, xf_9_11 hx5, xf_9_12 hx5, xf_9_13 hx5, xf_9_14 hx5, xf_9_15 hx5, xf_9_16 hx5, xf_5_1_45 hx5, xf_5_2_45 hx5, xf_5_1_50 hx5, xf_5_2_50 hx5, xf_5_1_55 hx5, xf_5_2_55 hx5, xf_5_1_60 hx5, xf_5_2_60 hx5, xk_18 hx5, xk_19 hx5, xk_21 hx5, xk_23 hx5, xk_25 hx5, xk_27 hx5, xk_29 hx5, xk_31 hx5, xk_33 hx5, xk_35 hx5, xk_37 hx5, xk_39 hx5, xk_41 hx5, xk_43 hx5, xk_45 hx5, xk_46 hx5, xk_48 hx5, xk_50 hx5, xk_51 hx5, xk_53 hx5, xk_55 hx5, xk_56 hx5, xk_58 hx5, xk_60 hx5, xk_61 hx5, xk_63 hx5, sgA.2, sgB.2, fx_n fsA, fx_d fsA, fx_i fsA, fx_p fsA, fx_k fsA, fx_kn fsA, fx_kd fsA, fx_n fsB, fx_d fsB, fx_i fsB, fx_p fsB, fx_k fsB, fx_kn fsB, fx_kd fsB, fx_n fsI, fx_d fsI, fx_i fsI, fx_p fsI, fx_k fsI, fx_kn fsI, fx_kd fsI, nb0, nb1]))
  refine Hx.bd (cw_divide hp5 hx5 hD hH (show x + 33 ∈ PX x by simp) (show x + 23 ∈ PX x by simp) (lt_bp hd (by omega)) (by omega)) (fun σ6 v6 h6 => ?_)
  obtain ⟨hF6, hP1, _⟩ := h6
  have hp6 := hF6.hp
  have hx6 := hx5.kW hF6
  replace fsA := fsA.kW hF6
  replace fsB := fsB.kW hF6
  replace fsI := fsI.kW hF6
  try replace sgA := sgA.kW hF6 (by simp only [s1, s2, s3, sG, sR, sRc]; omega)
  try replace sgB := sgB.kW hF6 (by simp only [s1, s2, s3, sG, sR, sRc]; omega)
  try replace hN := hN.kW hF6 (by simp only [s1, s2, s3, sG, sR, sRc]; omega)
  try replace hD := hD.kW hF6 (by simp only [s1, s2, s3, sG, sR, sRc]; omega)
  try replace hM := hM.kW hF6 (by simp only [s1, s2, s3, sG, sR, sRc]; omega)
  try replace hE := hE.kW hF6 (by simp only [s1, s2, s3, sG, sR, sRc]; omega)
  try replace hC := hC.kW hF6 (by simp only [s1, s2, s3, sG, sR, sRc]; omega)
  try replace hH := hH.kW hF6 (by simp only [s1, s2, s3, sG, sR, sRc]; omega)
  try replace hP2 := hP2.kW hF6 (by simp only [s1, s2, s3, sG, sR, sRc]; omega)
  try replace hQ := hQ.kW hF6 (by simp only [s1, s2, s3, sG, sR, sRc]; omega)
  have hG6 := hG5.tr0 hF6 (fun r _ hr => by simp only [s1, s2, s3, sG, sR, sRc] at hr ⊢; omega)
  (repeat (first | with_reducible refine hx_bs ?_ | with_reducible refine hx_cs ?_ | with_reducible refine hx_t ?_ | with_reducible refine hx_f ?_ | ((conv => arg 1; arg 1; simp (disch := first | assumption | omega) only [xf_9_0 hx6, xf_9_1 hx6, xf_9_2 hx6, xf_9_3 hx6, xf_9_4 hx6, xf_9_5 hx6, xf_9_6 hx6, xf_9_7 hx6, xf_9_8 hx6, xf_9_9 hx6, xf_9_10 hx6, xf_9_11 hx6, xf_9_12 hx6, xf_9_13 hx6, xf_9_14 hx6, xf_9_15 hx6, xf_9_16 hx6, xf_5_1_45 hx6, xf_5_2_45 hx6, xf_5_1_50 hx6, xf_5_2_50 hx6, xf_5_1_55 hx6, xf_5_2_55 hx6, xf_5_1_60 hx6, xf_5_2_60 hx6, xk_18 hx6, xk_19 hx6, xk_21 hx6, xk_23 hx6, xk_25 hx6, xk_27 hx6, xk_29 hx6, xk_31 hx6, xk_33 hx6, xk_35 hx6, xk_37 hx6, xk_39 hx6, xk_41 hx6, xk_43 hx6, xk_45 hx6, xk_46 hx6, xk_48 hx6, xk_50 hx6, xk_51 hx6, xk_53 hx6, xk_55 hx6, xk_56 hx6, xk_58 hx6, xk_60 hx6, xk_61 hx6, xk_63 hx6, sgA.2, sgB.2, fx_n fsA, fx_d fsA, fx_i fsA, fx_p fsA, fx_k fsA, fx_kn fsA, fx_kd fsA, fx_n fsB, fx_d fsB, fx_i fsB, fx_p fsB, fx_k fsB, fx_kn fsB, fx_kd fsB, fx_n fsI, fx_d fsI, fx_i fsI, fx_p fsI, fx_k fsI, fx_kn fsI, fx_kd fsI, nb0, nb1]); first | with_reducible refine hx_bs ?_ | with_reducible refine hx_cs ?_ | with_reducible refine hx_t ?_ | with_reducible refine hx_f ?_ | with_reducible refine hx_nm ?_))); (try (conv => arg 1; arg 1; simp (disch := first | assumption | omega) only [xf_9_0 hx6, xf_9_1 hx6, xf_9_2 hx6, xf_9_3 hx6, xf_9_4 hx6, xf_9_5 hx6, xf_9_6 hx6, xf_9_7 hx6, xf_9_8 hx6, xf_9_9 hx6, xf_9_10 hx6, xf_9_11 hx6, xf_9_12 hx6, xf_9_13 hx6, xf_9_14 hx6, xf_9_15 hx6, xf_9_16 hx6, xf_5_1_45 hx6, xf_5_2_45 hx6, xf_5_1_50 hx6, xf_5_2_50 hx6, xf_5_1_55 hx6, xf_5_2_55 hx6, xf_5_1_60 hx6, xf_5_2_60 hx6, xk_18 hx6, xk_19 hx6, xk_21 hx6, xk_23 hx6, xk_25 hx6, xk_27 hx6, xk_29 hx6, xk_31 hx6, xk_33 hx6, xk_35 hx6, xk_37 hx6, xk_39 hx6, xk_41 hx6, xk_43 hx6, xk_45 hx6, xk_46 hx6, xk_48 hx6, xk_50 hx6, xk_51 hx6, xk_53 hx6, xk_55 hx6, xk_56 hx6, xk_58 hx6, xk_60 hx6, xk_61 hx6, xk_63 hx6, sgA.2, sgB.2, fx_n fsA, fx_d fsA, fx_i fsA, fx_p fsA, fx_k fsA, fx_kn fsA, fx_kd fsA, fx_n fsB, fx_d fsB, fx_i fsB, fx_p fsB, fx_k fsB, fx_kn fsB, fx_kd fsB, fx_n fsI, fx_d fsI, fx_i fsI, fx_p fsI, fx_k fsI, fx_kn fsI, fx_kd fsI, nb0, nb1]))
  refine Hx.bd (cw_divide hp6 hx6 hE hC (show x + 35 ∈ PX x by simp) (show x + 23 ∈ PX x by simp) (lt_bp hd' (by omega)) (by omega)) (fun σ7 v7 h7 => ?_)
  obtain ⟨hF7, hP2, _⟩ := h7
  have hp7 := hF7.hp
  have hx7 := hx6.kW hF7
  replace fsA := fsA.kW hF7
  replace fsB := fsB.kW hF7
  replace fsI := fsI.kW hF7
  try replace sgA := sgA.kW hF7 (by simp only [s1, s2, s3, sG, sR, sRc]; omega)
  try replace sgB := sgB.kW hF7 (by simp only [s1, s2, s3, sG, sR, sRc]; omega)
  try replace hN := hN.kW hF7 (by simp only [s1, s2, s3, sG, sR, sRc]; omega)
  try replace hD := hD.kW hF7 (by simp only [s1, s2, s3, sG, sR, sRc]; omega)
  try replace hM := hM.kW hF7 (by simp only [s1, s2, s3, sG, sR, sRc]; omega)
  try replace hE := hE.kW hF7 (by simp only [s1, s2, s3, sG, sR, sRc]; omega)
  try replace hC := hC.kW hF7 (by simp only [s1, s2, s3, sG, sR, sRc]; omega)
  try replace hH := hH.kW hF7 (by simp only [s1, s2, s3, sG, sR, sRc]; omega)
  try replace hP1 := hP1.kW hF7 (by simp only [s1, s2, s3, sG, sR, sRc]; omega)
  try replace hQ := hQ.kW hF7 (by simp only [s1, s2, s3, sG, sR, sRc]; omega)
  have hG7 := hG6.tr0 hF7 (fun r _ hr => by simp only [s1, s2, s3, sG, sR, sRc] at hr ⊢; omega)
  (repeat (first | with_reducible refine hx_bs ?_ | with_reducible refine hx_cs ?_ | with_reducible refine hx_t ?_ | with_reducible refine hx_f ?_ | ((conv => arg 1; arg 1; simp (disch := first | assumption | omega) only [xf_9_0 hx7, xf_9_1 hx7, xf_9_2 hx7, xf_9_3 hx7, xf_9_4 hx7, xf_9_5 hx7, xf_9_6 hx7, xf_9_7 hx7, xf_9_8 hx7, xf_9_9 hx7, xf_9_10 hx7, xf_9_11 hx7, xf_9_12 hx7, xf_9_13 hx7, xf_9_14 hx7, xf_9_15 hx7, xf_9_16 hx7, xf_5_1_45 hx7, xf_5_2_45 hx7, xf_5_1_50 hx7, xf_5_2_50 hx7, xf_5_1_55 hx7, xf_5_2_55 hx7, xf_5_1_60 hx7, xf_5_2_60 hx7, xk_18 hx7, xk_19 hx7, xk_21 hx7, xk_23 hx7, xk_25 hx7, xk_27 hx7, xk_29 hx7, xk_31 hx7, xk_33 hx7, xk_35 hx7, xk_37 hx7, xk_39 hx7, xk_41 hx7, xk_43 hx7, xk_45 hx7, xk_46 hx7, xk_48 hx7, xk_50 hx7, xk_51 hx7, xk_53 hx7, xk_55 hx7, xk_56 hx7, xk_58 hx7, xk_60 hx7, xk_61 hx7, xk_63 hx7, sgA.2, sgB.2, fx_n fsA, fx_d fsA, fx_i fsA, fx_p fsA, fx_k fsA, fx_kn fsA, fx_kd fsA, fx_n fsB, fx_d fsB, fx_i fsB, fx_p fsB, fx_k fsB, fx_kn fsB, fx_kd fsB, fx_n fsI, fx_d fsI, fx_i fsI, fx_p fsI, fx_k fsI, fx_kn fsI, fx_kd fsI, nb0, nb1]); first | with_reducible refine hx_bs ?_ | with_reducible refine hx_cs ?_ | with_reducible refine hx_t ?_ | with_reducible refine hx_f ?_ | with_reducible refine hx_nm ?_))); (try (conv => arg 1; arg 1; simp (disch := first | assumption | omega) only [xf_9_0 hx7, xf_9_1 hx7, xf_9_2 hx7, xf_9_3 hx7, xf_9_4 hx7, xf_9_5 hx7, xf_9_6 hx7, xf_9_7 hx7, xf_9_8 hx7, xf_9_9 hx7, xf_9_10 hx7, xf_9_11 hx7, xf_9_12 hx7, xf_9_13 hx7, xf_9_14 hx7, xf_9_15 hx7, xf_9_16 hx7, xf_5_1_45 hx7, xf_5_2_45 hx7, xf_5_1_50 hx7, xf_5_2_50 hx7, xf_5_1_55 hx7, xf_5_2_55 hx7, xf_5_1_60 hx7, xf_5_2_60 hx7, xk_18 hx7, xk_19 hx7, xk_21 hx7, xk_23 hx7, xk_25 hx7, xk_27 hx7, xk_29 hx7, xk_31 hx7, xk_33 hx7, xk_35 hx7, xk_37 hx7, xk_39 hx7, xk_41 hx7, xk_43 hx7, xk_45 hx7, xk_46 hx7, xk_48 hx7, xk_50 hx7, xk_51 hx7, xk_53 hx7, xk_55 hx7, xk_56 hx7, xk_58 hx7, xk_60 hx7, xk_61 hx7, xk_63 hx7, sgA.2, sgB.2, fx_n fsA, fx_d fsA, fx_i fsA, fx_p fsA, fx_k fsA, fx_kn fsA, fx_kd fsA, fx_n fsB, fx_d fsB, fx_i fsB, fx_p fsB, fx_k fsB, fx_kn fsB, fx_kd fsB, fx_n fsI, fx_d fsI, fx_i fsI, fx_p fsI, fx_k fsI, fx_kn fsI, fx_kd fsI, nb0, nb1]))
  refine Hx.bd (cw_setProduct hp7 hP1 hP2 hI3 (by omega) (by omega) (lt_bp (bp_dvd _ hd) (by omega)) (lt_bp (bp_dvd _ hd') (by omega))) (fun σ8 v8 h8 => ?_)
  obtain ⟨hF8, hR⟩ := h8
  have hp8 := hF8.hp
  have hx8 := hx7.kW hF8
  replace fsA := fsA.kW hF8
  replace fsB := fsB.kW hF8
  replace fsI := fsI.kW hF8
  try replace sgA := sgA.kW hF8 (by simp only [s1, s2, s3, sG, sR, sRc]; omega)
  try replace sgB := sgB.kW hF8 (by simp only [s1, s2, s3, sG, sR, sRc]; omega)
  try replace hN := hN.kW hF8 (by simp only [s1, s2, s3, sG, sR, sRc]; omega)
  try replace hD := hD.kW hF8 (by simp only [s1, s2, s3, sG, sR, sRc]; omega)
  try replace hM := hM.kW hF8 (by simp only [s1, s2, s3, sG, sR, sRc]; omega)
  try replace hE := hE.kW hF8 (by simp only [s1, s2, s3, sG, sR, sRc]; omega)
  try replace hC := hC.kW hF8 (by simp only [s1, s2, s3, sG, sR, sRc]; omega)
  try replace hH := hH.kW hF8 (by simp only [s1, s2, s3, sG, sR, sRc]; omega)
  try replace hP1 := hP1.kW hF8 (by simp only [s1, s2, s3, sG, sR, sRc]; omega)
  try replace hP2 := hP2.kW hF8 (by simp only [s1, s2, s3, sG, sR, sRc]; omega)
  try replace hQ := hQ.kW hF8 (by simp only [s1, s2, s3, sG, sR, sRc]; omega)
  have hG8 := hG7.tr0 hF8 (fun r _ hr => by simp only [s1, s2, s3, sG, sR, sRc] at hr ⊢; omega)
  (repeat (first | with_reducible refine hx_bs ?_ | with_reducible refine hx_cs ?_ | with_reducible refine hx_t ?_ | with_reducible refine hx_f ?_ | ((conv => arg 1; arg 1; simp (disch := first | assumption | omega) only [xf_9_0 hx8, xf_9_1 hx8, xf_9_2 hx8, xf_9_3 hx8, xf_9_4 hx8, xf_9_5 hx8, xf_9_6 hx8, xf_9_7 hx8, xf_9_8 hx8, xf_9_9 hx8, xf_9_10 hx8, xf_9_11 hx8, xf_9_12 hx8, xf_9_13 hx8, xf_9_14 hx8, xf_9_15 hx8, xf_9_16 hx8, xf_5_1_45 hx8, xf_5_2_45 hx8, xf_5_1_50 hx8, xf_5_2_50 hx8, xf_5_1_55 hx8, xf_5_2_55 hx8, xf_5_1_60 hx8, xf_5_2_60 hx8, xk_18 hx8, xk_19 hx8, xk_21 hx8, xk_23 hx8, xk_25 hx8, xk_27 hx8, xk_29 hx8, xk_31 hx8, xk_33 hx8, xk_35 hx8, xk_37 hx8, xk_39 hx8, xk_41 hx8, xk_43 hx8, xk_45 hx8, xk_46 hx8, xk_48 hx8, xk_50 hx8, xk_51 hx8, xk_53 hx8, xk_55 hx8, xk_56 hx8, xk_58 hx8, xk_60 hx8, xk_61 hx8, xk_63 hx8, sgA.2, sgB.2, fx_n fsA, fx_d fsA, fx_i fsA, fx_p fsA, fx_k fsA, fx_kn fsA, fx_kd fsA, fx_n fsB, fx_d fsB, fx_i fsB, fx_p fsB, fx_k fsB, fx_kn fsB, fx_kd fsB, fx_n fsI, fx_d fsI, fx_i fsI, fx_p fsI, fx_k fsI, fx_kn fsI, fx_kd fsI, nb0, nb1, iz_mul]); first | with_reducible refine hx_bs ?_ | with_reducible refine hx_cs ?_ | with_reducible refine hx_t ?_ | with_reducible refine hx_f ?_ | with_reducible refine hx_nm ?_))); (try (conv => arg 1; arg 1; simp (disch := first | assumption | omega) only [xf_9_0 hx8, xf_9_1 hx8, xf_9_2 hx8, xf_9_3 hx8, xf_9_4 hx8, xf_9_5 hx8, xf_9_6 hx8, xf_9_7 hx8, xf_9_8 hx8, xf_9_9 hx8, xf_9_10 hx8, xf_9_11 hx8, xf_9_12 hx8, xf_9_13 hx8, xf_9_14 hx8, xf_9_15 hx8, xf_9_16 hx8, xf_5_1_45 hx8, xf_5_2_45 hx8, xf_5_1_50 hx8, xf_5_2_50 hx8, xf_5_1_55 hx8, xf_5_2_55 hx8, xf_5_1_60 hx8, xf_5_2_60 hx8, xk_18 hx8, xk_19 hx8, xk_21 hx8, xk_23 hx8, xk_25 hx8, xk_27 hx8, xk_29 hx8, xk_31 hx8, xk_33 hx8, xk_35 hx8, xk_37 hx8, xk_39 hx8, xk_41 hx8, xk_43 hx8, xk_45 hx8, xk_46 hx8, xk_48 hx8, xk_50 hx8, xk_51 hx8, xk_53 hx8, xk_55 hx8, xk_56 hx8, xk_58 hx8, xk_60 hx8, xk_61 hx8, xk_63 hx8, sgA.2, sgB.2, fx_n fsA, fx_d fsA, fx_i fsA, fx_p fsA, fx_k fsA, fx_kn fsA, fx_kd fsA, fx_n fsB, fx_d fsB, fx_i fsB, fx_p fsB, fx_k fsB, fx_kn fsB, fx_kd fsB, fx_n fsI, fx_d fsI, fx_i fsI, fx_p fsI, fx_k fsI, fx_kn fsI, fx_kd fsI, nb0, nb1, iz_mul]))
  refine Hx.bd (cf_setSign hp8 fsI hQ) (fun σ9 v9 h9 => ?_)
  obtain ⟨hF9, sgI⟩ := h9
  have hp9 := hF9.hp
  have hx9 := hx8.kW hF9
  replace fsA := fsA.kW hF9
  replace fsB := fsB.kW hF9
  replace fsI := fsI.kW hF9
  try replace sgA := sgA.kW hF9 (by simp only [s1, s2, s3, sG, sR, sRc]; omega)
  try replace sgB := sgB.kW hF9 (by simp only [s1, s2, s3, sG, sR, sRc]; omega)
  try replace hN := hN.kW hF9 (by simp only [s1, s2, s3, sG, sR, sRc]; omega)
  try replace hD := hD.kW hF9 (by simp only [s1, s2, s3, sG, sR, sRc]; omega)
  try replace hM := hM.kW hF9 (by simp only [s1, s2, s3, sG, sR, sRc]; omega)
  try replace hE := hE.kW hF9 (by simp only [s1, s2, s3, sG, sR, sRc]; omega)
  try replace hC := hC.kW hF9 (by simp only [s1, s2, s3, sG, sR, sRc]; omega)
  try replace hH := hH.kW hF9 (by simp only [s1, s2, s3, sG, sR, sRc]; omega)
  try replace hP1 := hP1.kW hF9 (by simp only [s1, s2, s3, sG, sR, sRc]; omega)
  try replace hP2 := hP2.kW hF9 (by simp only [s1, s2, s3, sG, sR, sRc]; omega)
  try replace hQ := hQ.kW hF9 (by simp only [s1, s2, s3, sG, sR, sRc]; omega)
  try replace hR := hR.kW hF9 (by simp only [s1, s2, s3, sG, sR, sRc]; omega)
  have hG9 := hG8.tr0 hF9 (fun r _ hr => by simp only [s1, s2, s3, sG, sR, sRc] at hr ⊢; omega)
  (repeat (first | with_reducible refine hx_bs ?_ | with_reducible refine hx_cs ?_ | with_reducible refine hx_t ?_ | with_reducible refine hx_f ?_ | ((conv => arg 1; arg 1; simp (disch := first | assumption | omega) only [xf_9_0 hx9, xf_9_1 hx9, xf_9_2 hx9, xf_9_3 hx9, xf_9_4 hx9, xf_9_5 hx9, xf_9_6 hx9, xf_9_7 hx9, xf_9_8 hx9, xf_9_9 hx9, xf_9_10 hx9, xf_9_11 hx9, xf_9_12 hx9, xf_9_13 hx9, xf_9_14 hx9, xf_9_15 hx9, xf_9_16 hx9, xf_5_1_45 hx9, xf_5_2_45 hx9, xf_5_1_50 hx9, xf_5_2_50 hx9, xf_5_1_55 hx9, xf_5_2_55 hx9, xf_5_1_60 hx9, xf_5_2_60 hx9, xk_18 hx9, xk_19 hx9, xk_21 hx9, xk_23 hx9, xk_25 hx9, xk_27 hx9, xk_29 hx9, xk_31 hx9, xk_33 hx9, xk_35 hx9, xk_37 hx9, xk_39 hx9, xk_41 hx9, xk_43 hx9, xk_45 hx9, xk_46 hx9, xk_48 hx9, xk_50 hx9, xk_51 hx9, xk_53 hx9, xk_55 hx9, xk_56 hx9, xk_58 hx9, xk_60 hx9, xk_61 hx9, xk_63 hx9, sgA.2, sgB.2, sgI.2, fx_n fsA, fx_d fsA, fx_i fsA, fx_p fsA, fx_k fsA, fx_kn fsA, fx_kd fsA, fx_n fsB, fx_d fsB, fx_i fsB, fx_p fsB, fx_k fsB, fx_kn fsB, fx_kd fsB, fx_n fsI, fx_d fsI, fx_i fsI, fx_p fsI, fx_k fsI, fx_kn fsI, fx_kd fsI, nb0, nb1]); first | with_reducible refine hx_bs ?_ | with_reducible refine hx_cs ?_ | with_reducible refine hx_t ?_ | with_reducible refine hx_f ?_ | with_reducible refine hx_nm ?_))); (try (conv => arg 1; arg 1; simp (disch := first | assumption | omega) only [xf_9_0 hx9, xf_9_1 hx9, xf_9_2 hx9, xf_9_3 hx9, xf_9_4 hx9, xf_9_5 hx9, xf_9_6 hx9, xf_9_7 hx9, xf_9_8 hx9, xf_9_9 hx9, xf_9_10 hx9, xf_9_11 hx9, xf_9_12 hx9, xf_9_13 hx9, xf_9_14 hx9, xf_9_15 hx9, xf_9_16 hx9, xf_5_1_45 hx9, xf_5_2_45 hx9, xf_5_1_50 hx9, xf_5_2_50 hx9, xf_5_1_55 hx9, xf_5_2_55 hx9, xf_5_1_60 hx9, xf_5_2_60 hx9, xk_18 hx9, xk_19 hx9, xk_21 hx9, xk_23 hx9, xk_25 hx9, xk_27 hx9, xk_29 hx9, xk_31 hx9, xk_33 hx9, xk_35 hx9, xk_37 hx9, xk_39 hx9, xk_41 hx9, xk_43 hx9, xk_45 hx9, xk_46 hx9, xk_48 hx9, xk_50 hx9, xk_51 hx9, xk_53 hx9, xk_55 hx9, xk_56 hx9, xk_58 hx9, xk_60 hx9, xk_61 hx9, xk_63 hx9, sgA.2, sgB.2, sgI.2, fx_n fsA, fx_d fsA, fx_i fsA, fx_p fsA, fx_k fsA, fx_kn fsA, fx_kd fsA, fx_n fsB, fx_d fsB, fx_i fsB, fx_p fsB, fx_k fsB, fx_kn fsB, fx_kd fsB, fx_n fsI, fx_d fsI, fx_i fsI, fx_p fsI, fx_k fsI, fx_kn fsI, fx_kd fsI, nb0, nb1]))
  exact Hx.ret ⟨hG9, _, key.symm, fsI, sgI, hQ, hR⟩
