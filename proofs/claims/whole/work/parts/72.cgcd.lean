/-! ===== the class' gcd ===== -/
theorem cF.dn {P S : List Nat} {k c : Nat} {σ σ' : St} (h : cF P S k c σ σ') (S' : List Nat) (hs : ∀ r ∈ S, r ∈ S') : cF P S' k c σ σ' := h.mo hs (Nat.le_refl _) (Nat.le_refl _)
theorem half_mod {x y : Nat} (h : y < x) (hy : 0 < y) : 2 * (y * (x % y)) ≤ x * y := by
  have h1 := Nat.div_add_mod x y
  have h2 := Nat.mod_lt x hy
  have h3 : 1 ≤ x / y := by
    rw [Nat.le_div_iff_mul_le hy]
    omega
  have h4 : y * 1 ≤ y * (x / y) := Nat.mul_le_mul_left y h3
  have h5 : 2 * (x % y) ≤ x := by omega
  have h6 : y * (2 * (x % y)) ≤ y * x := Nat.mul_le_mul_left y h5
  rw [Nat.mul_left_comm, Nat.mul_comm x y]
  exact h6
theorem gcd_step (a b : Nat) : Nat.gcd b (a % b) = Nat.gcd a b := by rw [Nat.gcd_comm a b, Nat.gcd_rec b a, Nat.gcd_comm]
theorem cn_gcd_longA {P : List Nat} {into z : Nat} : ∀ (N f : Nat) (σ : St) (t a b : Nat), HP P σ → Nt σ into z → b < a → a < 1000000000000000000 → a * b < 2 ^ N → N < f → t + N ≤ 999999 → Hx (fX5_gcd_114 f σ into (nJ a) (nJ b) (nI t)) (fun σ' _ => cF P [into] 0 0 σ σ' ∧ Nt σ' into (Nat.gcd a b)) := by
  intro N
  induction N with
  | zero =>
    intro f σ t a b hp hI hba ha h1 hf ht
    obtain ⟨f, rfl⟩ : ∃ g, f = g + 1 := ⟨f - 1, by omega⟩
    have hb : b = 0 := by
      apply Nat.eq_zero_of_not_pos
      intro hb
      have := Nat.mul_pos (show 0 < a by omega) hb
      rw [Nat.pow_zero] at h1
      omega
    subst hb
    rw [n_fX5_gcd_114]
    refine Hx.cs (fun c => by rw [sm_le (by omega) (by omega)] at c; omega) (fun _ => ?_)
    refine Hx.cs (fun _ => ?_) (fun c => absurd (by rw [lgc_zero]; rfl) c)
    rw [n_fX5_gcd_149, sm_ckK hI.k8, Nat.gcd_zero_right]
    refine hx_bs (Hx.bd (cn_setSmall hp hI ha) (fun σ1 _ h => Hx.ret h))
  | succ N ih =>
    intro f σ t a b hp hI hba ha h1 hf ht
    obtain ⟨f, rfl⟩ : ∃ g, f = g + 1 := ⟨f - 1, by omega⟩
    rw [n_fX5_gcd_114]
    refine Hx.cs (fun c => by rw [sm_le (by omega) (by omega)] at c; omega) (fun _ => ?_)
    refine Hx.cs (fun c => ?_) (fun c => ?_)
    · rw [lgc_zero, jm_jz, jz_toInt (by omega) (by omega)] at c
      have hb : b = 0 := by omega
      subst hb
      rw [n_fX5_gcd_149, sm_ckK hI.k8, Nat.gcd_zero_right]
      refine hx_bs (Hx.bd (cn_setSmall hp hI ha) (fun σ1 _ h => Hx.ret h))
    · rw [lgc_zero, jm_jz, jz_toInt (by omega) (by omega)] at c
      have hb : 0 < b := by omega
      rw [ckDL_ok hb (by omega)]
      refine hx_bs (hx_nm (hx_nm ?_))
      have hm := Nat.mod_lt a hb
      have hh := half_mod hba hb
      rw [jm_mod (by omega) hb (by omega), sm_add]
      rw [Nat.pow_succ] at h1
      have := ih f σ (t + 1) b (a % b) hp hI hm (by omega) (by omega) (by omega) (by omega)
      rw [gcd_step] at this
      exact this
theorem cn_gcd_long {P : List Nat} {into z : Nat} {σ : St} {a b : Nat} (hp : HP P σ) (hI : Nt σ into z) (ha : a < 1000000000000000000) (hb : b < 1000000000000000000) : Hx (fX5_gcd_114 FU σ into (nJ a) (nJ b) (nI 0)) (fun σ' _ => cF P [into] 0 0 σ σ' ∧ Nt σ' into (Nat.gcd a b)) := by
  have hp120 : ∀ u v : Nat, u < 1000000000000000000 → v < 1000000000000000000 → u * v < 2 ^ 120 := by
    intro u v hu hv
    have : u * v ≤ 1000000000000000000 * 1000000000000000000 := Nat.mul_le_mul (by omega) (by omega)
    have e : (2 : Nat) ^ 120 = 1329227995784915872903807060280344576 := rfl
    omega
  by_cases c : b < a
  · exact cn_gcd_longA 120 FU σ 0 a b hp hI c ha (hp120 _ _ ha hb) (by show 120 < 4294967296; omega) (by omega)
  · show Hx (fX5_gcd_114 (4294967295 + 1) σ into (nJ a) (nJ b) (nI 0)) _
    rw [n_fX5_gcd_114]
    refine Hx.cs (fun c => by rw [sm_le (by omega) (by omega)] at c; omega) (fun _ => ?_)
    refine Hx.cs (fun c => ?_) (fun c => ?_)
    · rw [lgc_zero, jm_jz, jz_toInt (by omega) (by omega)] at c
      have hb : b = 0 := by omega
      subst hb
      rw [n_fX5_gcd_149, sm_ckK hI.k8, Nat.gcd_zero_right]
      refine hx_bs (Hx.bd (cn_setSmall hp hI ha) (fun σ1 _ h => Hx.ret h))
    · rw [lgc_zero, jm_jz, jz_toInt (by omega) (by omega)] at c
      have hb0 : 0 < b := by omega
      rw [ckDL_ok hb0 (by omega)]
      refine hx_bs (hx_nm (hx_nm ?_))
      have hm := Nat.mod_lt a hb0
      rw [jm_mod (by omega) hb0 (by omega), sm_add]
      have := cn_gcd_longA 120 4294967295 σ (0 + 1) b (a % b) hp hI hm hb (hp120 _ _ hb (by omega)) (by omega) (by omega)
      rw [gcd_step] at this
      exact this
theorem cn_gcd_97 {P : List Nat} {into z g l : Nat} {σ : St} {a b : Nat} (hp : HP P σ) (hI : Nt σ into z) (hg : Nt σ g a) (hl : Nt σ l b) (ha : a < 1000000000000000000) (hb : b < 1000000000000000000) : Hx (fX5_gcd_97 σ into g l) (fun σ' _ => cF P [into] 0 0 σ σ' ∧ Nt σ' into (Nat.gcd a b)) := by
  rw [n_fX5_gcd_97, sm_ckK hg.k8]
  refine hx_bs ?_
  rw [cn_asLong hg ha]
  refine hx_cs ?_
  rw [sm_ckK hl.k8]
  refine hx_bs ?_
  rw [cn_asLong hl hb]
  exact hx_cs (cn_gcd_long hp hI ha hb)
theorem cn_gcd_loop {x into : Nat} (hiP : into ∈ PX x) (hi1 : into ∉ [x + 19, x + 21, x + 25, x + 27]) : ∀ (N f : Nat) (σ : St) (t g l a b : Nat), XS σ x → HP (PX x) σ → ((g = x + 25 ∧ l = x + 27) ∨ (g = x + 27 ∧ l = x + 25)) → Nt σ g a → Nt σ l b → b < a → a < 1000000000 ^ 500 → a * b < 2 ^ N → N < f → t + N ≤ 999999 →
    Hx (fX5_gcd_27 f σ (x + 18) into g l (nI t)) (fun σ' _ => cF (PX x) [into, x + 19, x + 21, x + 25, x + 27] 0 0 σ σ' ∧ Nt σ' into (Nat.gcd a b)) := by
  simp only [List.mem_cons, List.not_mem_nil, not_or, or_false] at hi1
  intro N
  induction N with
  | zero =>
    intro f σ t g l a b hx hp hgl hg hl hba ha h1 hf ht
    obtain ⟨f, rfl⟩ : ∃ g, f = g + 1 := ⟨f - 1, by omega⟩
    have hb : b = 0 := by
      apply Nat.eq_zero_of_not_pos
      intro hb
      have := Nat.mul_pos (show 0 < a by omega) hb
      rw [Nat.pow_zero] at h1
      omega
    subst hb
    obtain ⟨z, hI⟩ := hp.2 into hiP
    have ha2 : a < 1000000000 ^ 1000 := Nat.lt_of_lt_of_le ha (bp_mono (by omega))
    rw [n_fX5_gcd_27]
    refine Hx.cs (fun c => by rw [sm_le (by omega) (by omega)] at c; omega) (fun _ => ?_)
    rw [sm_ckK hl.k8]
    refine hx_bs ?_
    rw [cn_isLong hl, if_pos (by omega)]
    refine hx_cs (Hx.cs (fun c => by rw [sm_eq (by omega) (by omega)] at c; omega) (fun _ => ?_))
    rw [sm_ckK hg.k8]
    refine hx_bs ?_
    rw [cn_isLong hg]
    refine hx_cs (Hx.cs (fun c => ?_) (fun c => ?_))
    · rw [n_fX5_gcd_50, sm_ckK hl.k8]
      refine hx_bs ?_
      rw [cn_isZero hl, if_pos rfl]
      refine hx_cs (Hx.cs (fun c => by rw [sm_eq (by omega) (by omega)] at c; omega) (fun _ => ?_))
      rw [sm_ckK hI.k8, Nat.gcd_zero_right]
      refine hx_bs (Hx.bd (cn_setTo hp hI hg (Or.inl hiP) ha2) (fun σ1 _ h => Hx.ret ⟨h.1.up (by simp), h.2⟩))
    · rw [nb0] at c
      refine Hx.mo (cn_gcd_97 hp hI hg hl (by omega) (by omega)) (fun σ1 _ h => ⟨h.1.up (by simp), h.2⟩)
  | succ N ih =>
    intro f σ t g l a b hx hp hgl hg hl hba ha h1 hf ht
    obtain ⟨f, rfl⟩ : ∃ g, f = g + 1 := ⟨f - 1, by omega⟩
    obtain ⟨z, hI⟩ := hp.2 into hiP
    have ha2 : a < 1000000000 ^ 1000 := Nat.lt_of_lt_of_le ha (bp_mono (by omega))
    have hstep : Hx (fX5_gcd_50 (fX5_gcd_27 f) σ (x + 18) into g l (nI t)) (fun σ' _ => cF (PX x) [into, x + 19, x + 21, x + 25, x + 27] 0 0 σ σ' ∧ Nt σ' into (Nat.gcd a b)) := by
      rw [n_fX5_gcd_50, sm_ckK hl.k8]
      refine hx_bs ?_
      rw [cn_isZero hl]
      refine hx_cs (Hx.cs (fun c => ?_) (fun c => ?_))
      · rw [nb0] at c
        have hb : 0 < b := by omega
        rw [xf_9_0 hx]
        refine hx_bs ?_
        rw [xk_18 hx]
        refine hx_bs ?_
        have hgP : g ∈ PX x := by rcases hgl with ⟨h, _⟩ | ⟨h, _⟩ <;> subst h <;> simp
        refine Hx.bd (cn_divide hp (hx.kd 18 10 (by decide)) (xf_9_1 hx) hg hl (show x + 19 ∈ PX x by simp) hgP (show x + 21 ∈ PX x by simp) (by omega) (by omega) (by omega) (by omega) (by omega) (by omega) (by omega) (Nat.lt_of_lt_of_le ha (bp_mono (by omega)))) (fun σ1 _ h => ?_)
        obtain ⟨hF, _, hR⟩ := h
        have hl1 := hl.keep hF (by simp; omega)
        have hm := Nat.mod_lt a hb
        have hh := half_mod hba hb
        refine hx_nm ?_
        rw [sm_add]
        rw [Nat.pow_succ] at h1
        have := ih f σ1 (t + 1) l g b (a % b) (hx.keep hF) hF.hp (by omega) hl1 hR hm (by omega) (by omega) (by omega) (by omega)
        rw [gcd_step] at this
        refine Hx.mo this (fun σ2 _ h2 => ⟨?_, h2.2⟩)
        refine (hF.dn _ (fun r hr => ?_)).t0 h2.1
        simp only [List.mem_cons, List.not_mem_nil, or_false] at hr ⊢
        omega
      · rw [nb0] at c
        have hb : b = 0 := Classical.not_not.mp c
        subst hb
        rw [sm_ckK hI.k8, Nat.gcd_zero_right]
        refine hx_bs (Hx.bd (cn_setTo hp hI hg (Or.inl hiP) ha2) (fun σ1 _ h => Hx.ret ⟨h.1.up (by simp), h.2⟩))
    rw [n_fX5_gcd_27]
    refine Hx.cs (fun c => by rw [sm_le (by omega) (by omega)] at c; omega) (fun _ => ?_)
    rw [sm_ckK hl.k8]
    refine hx_bs ?_
    rw [cn_isLong hl]
    refine hx_cs (Hx.cs (fun _ => hstep) (fun c1 => ?_))
    rw [nb0] at c1
    rw [sm_ckK hg.k8]
    refine hx_bs ?_
    rw [cn_isLong hg]
    refine hx_cs (Hx.cs (fun _ => hstep) (fun c2 => ?_))
    rw [nb0] at c2
    refine Hx.mo (cn_gcd_97 hp hI hg hl (by omega) (by omega)) (fun σ1 _ h => ⟨h.1.up (by simp), h.2⟩)
theorem bp_bits : 1000000000 ^ 1000 ≤ 2 ^ 30000 := by
  rw [show 30000 = 30 * 1000 from rfl, Nat.pow_mul]
  exact Nat.pow_le_pow_left (by omega) _
theorem cn_gcd {x into a b u v : Nat} {σ : St} (hp : HP (PX x) σ) (hx : XS σ x) (ha : Nt σ a u) (hb : Nt σ b v) (hiP : into ∈ PX x) (hi1 : into ∉ [x + 19, x + 21, x + 25, x + 27]) (hb1 : b ∉ [x + 25]) (hu : u < 1000000000 ^ 500) (hv : v < 1000000000 ^ 500) :
    Hx (fX5_gcd σ (x + 18) a b into) (fun σ' _ => cF (PX x) [into, x + 19, x + 21, x + 25, x + 27] 0 0 σ σ' ∧ Nt σ' into (Nat.gcd u v)) := by
  have hu2 : u < 1000000000 ^ 1000 := Nat.lt_of_lt_of_le hu (bp_mono (by omega))
  have hv2 : v < 1000000000 ^ 1000 := Nat.lt_of_lt_of_le hv (bp_mono (by omega))
  have hN : ∀ p q : Nat, p < 1000000000 ^ 500 → q < 1000000000 ^ 500 → p * q < 2 ^ 30000 := by
    intro p q hp hq
    refine Nat.lt_of_lt_of_le (Nat.mul_lt_mul'' hp hq) ?_
    rw [← Nat.pow_add]
    exact bp_bits
  have hb2 : b ≠ x + 25 := by simpa using hb1
  obtain ⟨z1, h1⟩ := hp.2 (x + 25) (by simp)
  obtain ⟨z2, h2⟩ := hp.2 (x + 27) (by simp)
  rw [n_fX5_gcd, xf_9_3 hx]
  refine hx_bs ?_
  rw [xf_9_4 hx]
  refine hx_bs ?_
  rw [xk_25 hx]
  refine hx_bs ?_
  refine Hx.bd (cn_setTo hp h1 ha (Or.inl (by simp)) hu2) (fun σ1 v1 h1 => ?_)
  obtain ⟨hF1, hg⟩ := h1
  have hp1 := hF1.hp
  have hx1 := hx.keep hF1
  have h2 := h2.keep hF1 (by first | (simp; done) | (simp; omega))
  have hb := hb.keep hF1 (by first | (simp; done) | (simp; omega))
  rw [xk_27 hx1]
  refine hx_bs ?_
  refine Hx.bd (cn_setTo hp1 h2 hb (Or.inl (by simp)) hv2) (fun σ2 v2 h2 => ?_)
  obtain ⟨hF2, hl⟩ := h2
  have hp2 := hF2.hp
  have hx2 := hx1.keep hF2
  have hg := hg.keep hF2 (by first | (simp; done) | (simp; omega))
  have hF12 : cF (PX x) [into, x + 19, x + 21, x + 25, x + 27] 0 0 σ σ2 := (hF1.up (by simp)).t0 (hF2.up (by simp))
  by_cases c : v < u
  · exact Hx.mo (cn_gcd_loop hiP hi1 30000 FU σ2 0 (x + 25) (x + 27) u v hx2 hp2 (Or.inl ⟨rfl, rfl⟩) hg hl c hu (hN _ _ hu hv) (by show 30000 < 4294967296; omega) (by omega)) (fun σ3 _ h => ⟨hF12.t0 h.1, h.2⟩)
  · have hi2 := hi1
    simp only [List.mem_cons, List.not_mem_nil, not_or, or_false] at hi2
    obtain ⟨z, hI⟩ := hp2.2 into hiP
    have hstep : Hx (fX5_gcd_50 (fX5_gcd_27 4294967295) σ2 (x + 18) into (x + 25) (x + 27) (nI 0)) (fun σ' _ => cF (PX x) [into, x + 19, x + 21, x + 25, x + 27] 0 0 σ2 σ' ∧ Nt σ' into (Nat.gcd u v)) := by
      rw [n_fX5_gcd_50, xk_27 hx2]
      refine hx_bs ?_
      rw [cn_isZero hl]
      refine hx_cs (Hx.cs (fun c => ?_) (fun c => ?_))
      · rw [nb0] at c
        have hb : 0 < v := by omega
        rw [xf_9_0 hx2]
        refine hx_bs ?_
        rw [xk_18 hx2]
        refine hx_bs ?_
        refine Hx.bd (cn_divide hp2 (hx2.kd 18 10 (by decide)) (xf_9_1 hx2) hg hl (show x + 19 ∈ PX x by simp) (show x + 25 ∈ PX x by simp) (show x + 21 ∈ PX x by simp) (by omega) (by omega) (by omega) (by omega) (by omega) (by omega) (by omega) (Nat.lt_of_lt_of_le hu (bp_mono (by omega)))) (fun σ3 _ h => ?_)
        obtain ⟨hF, _, hR⟩ := h
        have hl1 := hl.keep hF (by simp)
        have hm := Nat.mod_lt u hb
        refine hx_nm ?_
        rw [sm_add]
        have := cn_gcd_loop hiP hi1 30000 4294967295 σ3 (0 + 1) (x + 27) (x + 25) v (u % v) (hx2.keep hF) hF.hp (Or.inr ⟨rfl, rfl⟩) hl1 hR hm hv (hN _ _ hv (by omega)) (by omega) (by omega)
        rw [gcd_step] at this
        refine Hx.mo this (fun σ4 _ h2 => ⟨?_, h2.2⟩)
        refine (hF.dn _ (fun r hr => ?_)).t0 h2.1
        simp only [List.mem_cons, List.not_mem_nil, or_false] at hr ⊢
        omega
      · rw [nb0] at c
        have hb : v = 0 := Classical.not_not.mp c
        subst hb
        rw [sm_ckK hI.k8, Nat.gcd_zero_right]
        refine hx_bs (Hx.bd (cn_setTo hp2 hI hg (Or.inl hiP) hu2) (fun σ1 _ h => Hx.ret ⟨h.1.up (by simp), h.2⟩))
    refine Hx.mo (Q := fun σ' _ => cF (PX x) [into, x + 19, x + 21, x + 25, x + 27] 0 0 σ2 σ' ∧ Nt σ' into (Nat.gcd u v)) ?_ (fun σ3 _ h => ⟨hF12.t0 h.1, h.2⟩)
    show Hx (fX5_gcd_27 (4294967295 + 1) σ2 (x + 18) into (x + 25) (x + 27) (nI 0)) _
    rw [n_fX5_gcd_27]
    refine Hx.cs (fun c => by rw [sm_le (by omega) (by omega)] at c; omega) (fun _ => ?_)
    rw [xk_27 hx2]
    refine hx_bs ?_
    rw [cn_isLong hl]
    refine hx_cs (Hx.cs (fun _ => hstep) (fun c1 => ?_))
    rw [nb0] at c1
    rw [xk_25 hx2]
    refine hx_bs ?_
    rw [cn_isLong hg]
    refine hx_cs (Hx.cs (fun _ => hstep) (fun c2 => ?_))
    rw [nb0] at c2
    refine Hx.mo (cn_gcd_97 hp2 hI hg hl (by omega) (by omega)) (fun σ1 _ h => ⟨h.1.up (by simp), h.2⟩)
