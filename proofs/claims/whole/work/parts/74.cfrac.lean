/-! ===== the class' Nat and Fraction with frames cW ===== -/
/-- less than a power of the base -/
def sml (y a : Nat) : Prop := y < 1000000000 ^ a
theorem sml.lt {y a : Nat} (h : sml y a) : y < 1000000000 ^ a := h
theorem sml_le {y z a : Nat} (h : z ≤ y) (hy : sml y a) : sml z a := Nat.lt_of_le_of_lt h hy
theorem sml_lit {y : Nat} (h : y < 1000000000) : sml y 1 := by
  show y < 1000000000 ^ 1
  rw [bw1]; exact h
theorem lt_bp {y a b : Nat} (h : sml y a) (hab : a ≤ b) : sml y b := Nat.lt_of_lt_of_le h (bp_mono hab)
theorem bp_mul {y z a b : Nat} (hy : sml y a) (hz : sml z b) : sml (y * z) (a + b) := by
  show _ < 1000000000 ^ (a + b)
  rw [Nat.pow_add]
  exact Nat.mul_lt_mul'' hy hz
theorem bp_dvd {y a : Nat} (b : Nat) (hy : sml y a) : sml (y / b) a := Nat.lt_of_le_of_lt (Nat.div_le_self _ _) hy
theorem bp_add {y z a : Nat} (hy : sml y a) (hz : sml z a) : sml (y + z) (a + 1) := by
  show _ < 1000000000 ^ (a + 1)
  unfold sml at hy hz
  rw [Nat.pow_succ]
  have := bp_pos a
  omega
theorem bp_gcd {y z a : Nat} (hy : sml y a) (hz : sml z a) : sml (Nat.gcd y z) a := by
  rcases Nat.eq_zero_or_pos y with h | h
  · rw [h, Nat.gcd_zero_left]; exact hz
  · exact Nat.lt_of_le_of_lt (Nat.gcd_le_left _ h) hy
theorem cw_setTo {x a b u y : Nat} {σ : St} (hp : HP (PX x) σ) (hA : Nt σ a y) (hB : Nt σ b u) (hr : rm (PX x) σ a u) (hu : sml (u) 1000) : Hx (fX3_setTo σ a b) (fun σ' _ => cW x (s1 a) 0 0 σ σ' ∧ Nt σ' a u) :=
  Hx.mo (cn_setTo hp hA hB hr hu) (fun _ _ h => ⟨h.1.W (by simp [s1]), h.2⟩)
theorem cw_setSmall {x a v y : Nat} {σ : St} (hp : HP (PX x) σ) (hA : Nt σ a y) (hv : v < 1000000000000000000) : Hx (fX3_setSmall σ a (nJ v)) (fun σ' _ => cW x (s1 a) 0 0 σ σ' ∧ Nt σ' a v) :=
  Hx.mo (cn_setSmall hp hA hv) (fun _ _ h => ⟨h.1.W (by simp [s1]), h.2⟩)
theorem cw_raise {x a y c d : Nat} {σ : St} (hp : HP (PX x) σ) (hA : Nt σ a y) (hc1 : 1 ≤ c) (hc2 : c ≤ 1000000000) (hd : d < 1000000000) (hx : sml (y) 1000) (hr : rm (PX x) σ a (y * c + d)) : Hx (fX3_raise σ a (nI c) (nI d)) (fun σ' _ => cW x (s1 a) 0 0 σ σ' ∧ Nt σ' a (y * c + d)) :=
  Hx.mo (cn_raise hp hA hc1 hc2 hd hx hr) (fun _ _ h => ⟨h.1.W (by simp [s1]), h.2⟩)
theorem cw_lower {x a y c : Nat} {σ : St} (hp : HP (PX x) σ) (hA : Nt σ a y) (hc1 : 1 ≤ c) (hc2 : c ≤ 1000000000) : Hx (fX3_lower σ a (nI c)) (fun σ' v => cW x (s1 a) 0 0 σ σ' ∧ v = nI (y % c) ∧ Nt σ' a (y / c)) :=
  Hx.mo (cn_lower hp hA hc1 hc2) (fun _ _ h => ⟨h.1.W (by simp [s1]), h.2⟩)
theorem cw_plus {x a b u y : Nat} {σ : St} (hp : HP (PX x) σ) (hA : Nt σ a u) (hB : Nt σ b y) (haP : a ∈ PX x) (hab : b ≠ a) (hu : sml (u) 999) (hy : sml (y) 999) : Hx (fX3_plus σ a b) (fun σ' _ => cW x (s1 a) 0 0 σ σ' ∧ Nt σ' a (u + y)) :=
  Hx.mo (cn_plus hp hA hB haP hab hu hy) (fun _ _ h => ⟨h.1.W (by simp [s1]), h.2⟩)
theorem cw_minus {x a b u y : Nat} {σ : St} (hp : HP (PX x) σ) (hA : Nt σ a u) (hB : Nt σ b y) (hab : b ≠ a) (hyx : y ≤ u) : Hx (fX3_minus σ a b) (fun σ' _ => cW x (s1 a) 0 0 σ σ' ∧ Nt σ' a (u - y)) :=
  Hx.mo (cn_minus hp hA hB hab hyx) (fun _ _ h => ⟨h.1.W (by simp [s1]), h.2⟩)
theorem cw_setProduct {x t a b u y : Nat} {σ : St} (hp : HP (PX x) σ) (hA : Nt σ a u) (hB : Nt σ b y) (htP : t ∈ PX x) (hta : a ≠ t) (htb : b ≠ t) (hu : sml (u) 500) (hy : sml (y) 500) : Hx (fX3_setProduct σ t a b) (fun σ' _ => cW x (s1 t) 0 0 σ σ' ∧ Nt σ' t (u * y)) := by
  obtain ⟨z, hT⟩ := hp.2 t htP
  exact Hx.mo (cn_setProduct hp hT hA hB htP hta htb hu hy) (fun _ _ h => ⟨h.1.W (by simp [s1]), h.2⟩)
theorem cw_divide {x a b into rem u y : Nat} {σ : St} (hp : HP (PX x) σ) (hx : XS σ x) (hA : Nt σ a u) (hB : Nt σ b y) (hiP : into ∈ PX x) (hrP : rem ∈ PX x) (hu : sml (u) 900) (hn : a ≠ into ∧ b ≠ into ∧ into ≠ rem ∧ b ≠ rem ∧ into ≠ x + 21 ∧ rem ≠ x + 21 ∧ b ≠ x + 21) :
    Hx (fX5_divide σ (x + 18) a b into rem) (fun σ' _ => cW x (s3 into rem (x + 21)) 0 0 σ σ' ∧ Nt σ' into (u / y) ∧ Nt σ' rem (u % y)) :=
  Hx.mo (cn_divide hp (hx.kd 18 10 (by decide)) (xf_9_1 hx) hA hB hiP hrP (by simp) hn.1 hn.2.1 hn.2.2.1 hn.2.2.2.1 (by omega) (by omega) hn.2.2.2.2.2.2 hu) (fun _ _ h => ⟨h.1.W (by simp [s3]), h.2⟩)
theorem cw_gcd {x into a b u v : Nat} {σ : St} (hp : HP (PX x) σ) (hx : XS σ x) (ha : Nt σ a u) (hb : Nt σ b v) (hiP : into ∈ PX x) (hi1 : x + 27 < into) (hb1 : b ≠ x + 25) (hu : sml (u) 500) (hv : sml (v) 500) :
    Hx (fX5_gcd σ (x + 18) a b into) (fun σ' _ => cW x (sG x into) 0 0 σ σ' ∧ Nt σ' into (Nat.gcd u v)) :=
  Hx.mo (cn_gcd hp hx ha hb hiP (by simp; omega) (by simpa using hb1) hu hv) (fun _ _ h => ⟨h.1.W (fun r hr => by simp at hr; simp only [sG]; omega), h.2⟩)
theorem iz_m1 : iz (-1) = -1 := rfl
theorem iz_0 : iz 0 = 0 := rfl
theorem SgI {σ : St} {a : Nat} {s : Int} (h : sK σ a = 6) : Sg (wI σ (fid 5 0) a (iz s)) a s := ⟨h, sI_wI_eq⟩
/-- setSign -/
theorem cf_setSign {x a n : Nat} {s : Int} {σ : St} (hp : HP (PX x) σ) (hfs : FS σ a) (hn : Nt σ (a + 1) n) : Hx (fX1_setSign σ a (iz s)) (fun σ' _ => cW x (s1 a) 0 0 σ σ' ∧ Sg σ' a (if n = 0 then 0 else s)) := by
  have h8 : sK σ a ≠ 8 := by rw [hfs.1]; omega
  have h1 : sK σ a ≠ 100 := by rw [hfs.1]; omega
  rw [n_fX1_setSign, fx_n hfs]
  refine hx_bs ?_
  rw [fx_kn hfs]
  refine hx_bs ?_
  rw [cn_isZero hn]
  refine hx_cs (Hx.cs (fun c => ?_) (fun c => ?_))
  · rw [nb0] at c
    rw [n_fX1_setSign_16, fx_p hfs, if_neg c]
    exact hx_bs (Hx.ret ⟨cWi hp h8 h1, SgI hfs.1⟩)
  · rw [nb0] at c
    have c := Classical.not_not.mp c
    rw [n_fX1_setSign_16, fx_p hfs, if_pos c]
    exact hx_bs (Hx.ret ⟨cWi hp h8 h1, SgI (s := 0) hfs.1⟩)
/-- a fraction takes another's value -/
theorem cf_setTo {x a b n d n0 d0 : Nat} {s s0 : Int} {σ : St} (hp : HP (PX x) σ) (hA : FX σ a s0 n0 d0) (hB : FX σ b s n d) (hab : a ≠ b) (hrn : rm (PX x) σ (a + 1) n) (hrd : rm (PX x) σ (a + 3) d) (hn : sml (n) 1000) (hd : sml (d) 1000) : Hx (fX1_setTo σ a b) (fun σ' _ => cW x (s3 a (a + 1) (a + 3)) 0 0 σ σ' ∧ FX σ' a s n d) := by
  obtain ⟨fsA, hsA, hnA, hdA⟩ := hA
  obtain ⟨fsB, hsB, hnB, hdB⟩ := hB
  have hne := fsA.ne fsB hab
  have h8 : sK σ a ≠ 8 := by rw [fsA.1]; omega
  have h1 : sK σ a ≠ 100 := by rw [fsA.1]; omega
  have hF := cWi (f := fid 5 0) (v := iz s) hp h8 h1
  rw [n_fX1_setTo, fx_i fsB, hsB.2]
  refine hx_bs ?_
  rw [fx_p fsA]
  refine hx_bs ?_
  have hsA : Sg (wI σ (fid 5 0) a (iz s)) a s := SgI fsA.1
  have hp0 := hF.hp
  replace hrn := hrn.kW hF hnA.k8
  replace hrd := hrd.kW hF hdA.k8
  replace fsA := fsA.kW hF
  replace fsB := fsB.kW hF
  replace hnA := hnA.kW hF (by simp only [s1]; omega)
  replace hdA := hdA.kW hF (by simp only [s1]; omega)
  replace hnB := hnB.kW hF (by simp only [s1]; omega)
  replace hdB := hdB.kW hF (by simp only [s1]; omega)
  generalize wI σ (fid 5 0) a (iz s) = σ0 at *
  rw [fx_n fsA]
  refine hx_bs ?_
  rw [fx_n fsB]
  refine hx_bs ?_
  rw [fx_kn fsA]
  refine hx_bs ?_
  refine Hx.bd (cw_setTo hp0 hnA hnB hrn hn) (fun σ1 _ h => ?_)
  obtain ⟨hF1, hn1⟩ := h
  replace fsA := fsA.kW hF1
  replace fsB := fsB.kW hF1
  replace hrd := hrd.kW hF1 hdA.k8
  replace hdA := hdA.kW hF1 (by simp only [s1]; omega)
  replace hdB := hdB.kW hF1 (by simp only [s1]; omega)
  replace hsA := hsA.kW hF1 (by simp only [s1]; omega)
  rw [fx_d fsA]
  refine hx_bs ?_
  rw [fx_d fsB]
  refine hx_bs ?_
  rw [fx_kd fsA]
  refine hx_bs ?_
  refine Hx.bd (cw_setTo hF1.hp hdA hdB hrd hd) (fun σ2 _ h => ?_)
  obtain ⟨hF2, hd2⟩ := h
  refine Hx.ret ⟨?_, fsA.kW hF2, hsA.kW hF2 (by simp only [s1]; omega), hn1.kW hF2 (by simp only [s1]; omega), hd2⟩
  exact ((hF.mo (fun r _ hr => by simp only [s1, s3] at hr ⊢; omega) (Nat.le_refl _) (Nat.le_refl _)).tr0 hF1 (fun r _ hr => by simp only [s1, s3] at hr ⊢; omega)).tr0 hF2 (fun r _ hr => by simp only [s1, s3] at hr ⊢; omega)
theorem cf_fits {a n d : Nat} {s : Int} {σ : St} (h : FX σ a s n d) : fX1_fits σ a = some (σ, nI (if n < 1000000000000000000000000000000 ∧ d < 1000000000000000000000000000000 then 1 else 0)) := by
  obtain ⟨fsA, hsA, hnA, hdA⟩ := h
  apply hx_eq
  rw [n_fX1_fits, fx_n fsA]
  refine hx_bs ?_
  rw [fx_kn fsA]
  refine hx_bs ?_
  rw [cn_fits hnA]
  refine hx_cs (Hx.cs (fun c => ?_) (fun c => ?_))
  · rw [nb0] at c
    exact Hx.ret ⟨rfl, by rw [if_neg (fun q => c q.1)]⟩
  · rw [nb0] at c
    have c := Classical.not_not.mp c
    rw [fx_d fsA]
    refine hx_bs ?_
    rw [fx_kd fsA]
    refine hx_bs ?_
    rw [cn_fits hdA]
    refine hx_cs (Hx.cs (fun c2 => ?_) (fun c2 => ?_))
    · rw [nb0] at c2
      exact Hx.ret ⟨rfl, by rw [if_neg (fun q => c2 q.2)]⟩
    · rw [nb0] at c2
      have c2 := Classical.not_not.mp c2
      exact Hx.ret ⟨rfl, by rw [if_pos ⟨c, c2⟩]⟩
theorem cf_isWhole {a n d : Nat} {s : Int} {σ : St} (h : FX σ a s n d) : fX1_isWhole σ a = some (σ, nI (if d = 1 then 1 else 0)) := by
  obtain ⟨fsA, hsA, hnA, hdA⟩ := h
  rw [n_fX1_isWhole, fx_d fsA]
  simp only [sm_bind, fx_kd fsA, cn_isOne hdA, sm_cb]
  rw [ckZ_b (by split <;> omega)]
  rfl
theorem cmp3_0 {x y : Nat} : (iz (cmp3 x y) = nI 0) = (x = y) := by
  have := cmp3_b x y
  rw [show nI 0 = iz (0 : Int) from rfl, iz_eq (by omega) (by omega) (by omega) (by omega)]
  unfold cmp3
  by_cases h : x < y
  · rw [if_pos h]; exact propext (by omega)
  · rw [if_neg h]
    by_cases h2 : x = y
    · rw [if_pos h2]; exact propext (by omega)
    · rw [if_neg h2]; exact propext (by omega)
theorem cf_isSame {a b n d n' d' : Nat} {s s' : Int} {σ : St} (hA : FX σ a s n d) (hB : FX σ b s' n' d') (hs : -1 ≤ s ∧ s ≤ 1) (hs' : -1 ≤ s' ∧ s' ≤ 1) : fX1_isSame σ a b = some (σ, nI (if s = s' ∧ n = n' ∧ d = d' then 1 else 0)) := by
  obtain ⟨fsA, hsA, hnA, hdA⟩ := hA
  obtain ⟨fsB, hsB, hnB, hdB⟩ := hB
  apply hx_eq
  rw [n_fX1_isSame, fx_i fsA, hsA.2]
  refine hx_bs ?_
  rw [fx_i fsB, hsB.2]
  refine hx_bs ?_
  refine Hx.cs (fun c => ?_) (fun c => ?_)
  · rw [iz_eq (by omega) (by omega) (by omega) (by omega)] at c
    simp only [fx_n fsA, fx_n fsB, fx_kn fsA, cn_against hnA hnB, sm_bind, sm_cb]
    refine Hx.cs (fun c1 => ?_) (fun c1 => ?_)
    · rw [cmp3_0] at c1
      simp only [fx_d fsA, fx_d fsB, fx_kd fsA, cn_against hdA hdB, sm_bind, sm_cb]
      refine Hx.cs (fun c2 => ?_) (fun c2 => ?_)
      · rw [cmp3_0] at c2
        exact Hx.ret ⟨rfl, by rw [if_pos ⟨c, c1, c2⟩]⟩
      · rw [cmp3_0] at c2
        exact Hx.ret ⟨rfl, by rw [if_neg (fun q => c2 q.2.2)]⟩
    · rw [cmp3_0] at c1
      exact Hx.ret ⟨rfl, by rw [if_neg (fun q => c1 q.2.1)]⟩
  · rw [iz_eq (by omega) (by omega) (by omega) (by omega)] at c
    exact Hx.ret ⟨rfl, by rw [if_neg (fun q => c q.1)]⟩
