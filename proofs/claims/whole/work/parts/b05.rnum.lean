/-! ===== the reference makes a number ===== -/
/-- the parts of a NUMBER at s: its point, where what repeats begins, its end -/
def Nbd (t : List Nat) (s a r e : Nat) : Prop := (s ≤ a ∧ a ≤ r ∧ r ≤ e ∧ e ≤ t.length) ∧ (a < e → a < r ∧ ¬ isD (tb t a) = true) ∧ (∀ k, a < k → k < r → isD (tb t k) = true) ∧ (r < e → tb t r = 91 ∧ ¬ isD (tb t (e - 1)) = true ∧ r + 2 < e ∧ e ≤ r + 8 ∧ ∀ k, r < k → k + 1 < e → isD (tb t k) = true)
/-- how many digits stand behind the point, ahead of what repeats -/
def dnk (a r k : Nat) : Nat := min k r - (a + 1)
theorem nbd_of {t : List Nat} {s e : Nat} (h9 : Nat9 t s) (he : eN t s = some e) : Nbd t s (ew isD t s) (if tb t (ew isD t s) = 46 then ew isD t (ew isD t s + 1) else ew isD t s) e ∧
    nmp t s = (if (if tb t (ew isD t s) = 46 then ew isD t (ew isD t s + 1) else ew isD t s) < e then (dgf t ((if tb t (ew isD t s) = 46 then ew isD t (ew isD t s + 1) else ew isD t s) - s) s 0 * (10 ^ (e - (if tb t (ew isD t s) = 46 then ew isD t (ew isD t s + 1) else ew isD t s) - 2) - 1) + dgf t (e - (if tb t (ew isD t s) = 46 then ew isD t (ew isD t s + 1) else ew isD t s) - 2) ((if tb t (ew isD t s) = 46 then ew isD t (ew isD t s + 1) else ew isD t s) + 1) 0, 10 ^ dnk (ew isD t s) (if tb t (ew isD t s) = 46 then ew isD t (ew isD t s + 1) else ew isD t s) e * (10 ^ (e - (if tb t (ew isD t s) = 46 then ew isD t (ew isD t s + 1) else ew isD t s) - 2) - 1)) else (dgf t (e - s) s 0, 10 ^ dnk (ew isD t s) (if tb t (ew isD t s) = 46 then ew isD t (ew isD t s + 1) else ew isD t s) e)) := by
  obtain ⟨hs, hd, _⟩ := h9
  have a1 : s ≤ ew isD t s := ew_ge
  have a2 : ew isD t s ≤ t.length := ew_le (by omega)
  unfold eN at he
  unfold nmp dnk
  generalize ew isD t s = a at *
  split at he
  · cases he
  split at he
  · rename_i c1 c2
    have he : a = e := Option.some.inj he
    subst he
    rw [if_neg c2, if_neg (show ¬ a < a by omega), if_pos c2]
    refine ⟨⟨⟨a1, by omega, by omega, a2⟩, fun q => absurd q (by omega), fun k h1 h2 => absurd h1 (by omega), fun q => absurd q (by omega)⟩, ?_⟩
    rw [show min a a - (a + 1) = 0 by omega]
  rename_i c1 c2
  have c2 := Classical.not_not.mp c2
  have hD46 : ¬ isD (tb t a) = true := by rw [c2, isD_i]; omega
  rw [if_pos c2, if_neg (fun q => q c2)]
  have g4 := tb_at c2 (by omega)
  have g5 : a + 1 ≤ ew isD t (a + 1) := ew_ge
  have g6 : ew isD t (a + 1) ≤ t.length := ew_le (by omega)
  have g7 : ∀ k, a < k → k < ew isD t (a + 1) → isD (tb t k) = true := fun k h1 h2 => (ew_mid (P := isD) (t := t) (p := a + 1) (by omega) h2).2
  generalize ew isD t (a + 1) = b at *
  split at he
  · cases he
  split at he
  · split at he
    · cases he
    · rename_i c4 _
      have he : b = e := Option.some.inj he
      subst he
      rw [if_neg (show ¬ b < b by omega), if_pos c4]
      refine ⟨⟨⟨a1, by omega, by omega, g6⟩, fun q => ⟨by omega, hD46⟩, g7, fun q => absurd q (by omega)⟩, ?_⟩
      rw [show min b b - (a + 1) = b - a - 1 by omega]
  rename_i c3 c4
  have c4 := Classical.not_not.mp c4
  rw [if_neg (fun q => q c4)]
  have g8 := tb_at c4 (by omega)
  have g9 : b + 1 ≤ ew isD t (b + 1) := ew_ge
  have g10 : ew isD t (b + 1) ≤ t.length := ew_le (by omega)
  have g11 : ∀ k, b < k → k < ew isD t (b + 1) → isD (tb t k) = true := fun k h1 h2 => (ew_mid (P := isD) (t := t) (p := b + 1) (by omega) h2).2
  generalize ew isD t (b + 1) = c at *
  split at he
  · cases he
  split at he
  · cases he
  split at he
  · cases he
  rename_i c5 c6 c7
  have c7 := Classical.not_not.mp c7
  have g12 := tb_at c7 (by omega)
  cases he
  rw [if_pos (show b < c + 1 by omega)]
  refine ⟨⟨⟨a1, by omega, by omega, g12⟩, fun q => ⟨by omega, hD46⟩, g7, fun _ => ⟨c4, by rw [Nat.add_sub_cancel, c7, isD_i]; omega, by omega, by omega, fun k h1 h2 => g11 k h1 (by omega)⟩⟩, ?_⟩
  rw [show min (c + 1) b - (a + 1) = b - a - 1 by omega, show c + 1 - b - 2 = c - b - 1 by omega]
theorem dgf_lin {t : List Nat} : ∀ (k p n : Nat), (∀ j, p ≤ j → j < p + k → isD (tb t j) = true) → dgf t k p n = n * 10 ^ k + dgf t k p 0 := by
  intro k
  induction k with
  | zero => intro p n _; show n = n * 1 + 0; omega
  | succ k ih =>
    intro p n h
    have hd := h p (by omega) (by omega)
    show dgf t k (p + 1) (if isD (tb t p) = true then 10 * n + (tb t p - 48) else n) = _ + dgf t k (p + 1) (if isD (tb t p) = true then 10 * 0 + (tb t p - 48) else 0)
    rw [if_pos hd, if_pos hd, ih (p + 1) (10 * n + (tb t p - 48)) (fun j h1 h2 => h j (by omega) (by omega)), ih (p + 1) (10 * 0 + (tb t p - 48)) (fun j h1 h2 => h j (by omega) (by omega))]
    rw [Nat.add_mul, Nat.add_mul, Nat.pow_succ]
    have e1 : 10 * n * 10 ^ k = n * (10 ^ k * 10) := by rw [Nat.mul_comm 10 n, Nat.mul_assoc, Nat.mul_comm 10]
    rw [e1]
    omega
theorem rv_times {m t c x : Nat} {σ : St} {β : Type} {k : St → Unit → Option (St × β)} {Q : St → β → Prop} (hm : MS σ m) (ht : t < 15) (hc : c ≤ 10000) (hx : x < 10000 ^ 100) (hA : Rv σ m t x) (h : ∀ σ', rfR m [t] σ σ' → Rv σ' m t (x * c) → Hx (k σ' ()) Q) : Hx (cb (fX12_times σ m (nI t) (nI c)) k) Q := by
  obtain ⟨σ', e, h1, h2⟩ := rf_times hm ht hc (show 100 ≤ 980 by omega) hx hA
  rw [e]
  exact hx_cs (h σ' h1 h2)
theorem rv_puts {m t v : Nat} {σ : St} {β : Type} {k : St → Unit → Option (St × β)} {Q : St → β → Prop} (hm : MS σ m) (ht : t < 15) (hv : v < 2147483648) (h : ∀ σ', rfR m [t] σ σ' → Rv σ' m t v → Hx (k σ' ()) Q) : Hx (cb (fX12_puts σ m (nI t) (nI v)) k) Q := by
  obtain ⟨σ', e, h1, h2⟩ := rf_puts hm ht hv
  rw [e]
  exact hx_cs (h σ' h1 h2)
theorem rv_adds {m t b x y : Nat} {σ : St} {β : Type} {k : St → Unit → Option (St × β)} {Q : St → β → Prop} (hm : MS σ m) (ht : t < 15) (hb : b < 15) (hne : t ≠ b) (hx : x < 10000 ^ 100) (hy : y < 10000 ^ 100) (hA : Rv σ m t x) (hB : Rv σ m b y) (h : ∀ σ', rfR m [t] σ σ' → Rv σ' m t (x + y) → Hx (k σ' ()) Q) : Hx (cb (fX12_adds σ m (nI t) (nI b)) k) Q := by
  obtain ⟨σ', e, h1, h2⟩ := rf_adds hm ht hb hne (show 100 ≤ 980 by omega) hx hy hA hB
  rw [e]
  exact hx_cs (h σ' h1 h2)
theorem rv_copies {m t f x : Nat} {σ : St} {β : Type} {k : St → Unit → Option (St × β)} {Q : St → β → Prop} (hm : MS σ m) (ht : t < 15) (hf : f < 15) (hne : t ≠ f) (hA : Rv σ m f x) (h : ∀ σ', rfR m [t] σ σ' → Rv σ' m t x → Hx (k σ' ()) Q) : Hx (cb (fX12_copies σ m (nI t) (nI f)) k) Q := by
  obtain ⟨σ', e, h1, h2⟩ := rf_copies hm ht hf hne hA
  rw [e]
  exact hx_cs (h σ' h1 h2)
theorem rv_takesAway {m t b x y : Nat} {σ : St} {β : Type} {k : St → Unit → Option (St × β)} {Q : St → β → Prop} (hm : MS σ m) (ht : t < 15) (hb : b < 15) (hne : t ≠ b) (hyx : y ≤ x) (hA : Rv σ m t x) (hB : Rv σ m b y) (h : ∀ σ', rfR m [t] σ σ' → Rv σ' m t (x - y) → Hx (k σ' ()) Q) : Hx (cb (fX12_takesAway σ m (nI t) (nI b)) k) Q := by
  obtain ⟨σ', e, h1, h2⟩ := rf_takesAway hm ht hb hne hyx hA hB
  rw [e]
  exact hx_cs (h σ' h1 h2)
theorem rv_multiplies {m t a b x y : Nat} {σ : St} {β : Type} {k : St → Unit → Option (St × β)} {Q : St → β → Prop} (hm : MS σ m) (ht : t < 15) (ha : a < 15) (hb : b < 15) (hat : a ≠ t) (hbt : b ≠ t) (hx : x < 10000 ^ 100) (hy : y < 10000 ^ 100) (hA : Rv σ m a x) (hB : Rv σ m b y) (h : ∀ σ', rfR m [t] σ σ' → Rv σ' m t (x * y) → Hx (k σ' ()) Q) : Hx (cb (fX12_multiplies σ m (nI t) (nI a) (nI b)) k) Q := by
  obtain ⟨σ', e, h1, h2⟩ := rf_multiplies hm ht ha hb hat hbt (show 100 + 100 ≤ 980 by omega) hx hy hA hB
  rw [e]
  exact hx_cs (h σ' h1 h2)
theorem rfR.tr' {m : Nat} {S1 S2 S3 : List Nat} {σ σ1 σ2 σ3 : St} (h1 : rfR m S1 σ σ1) (h2 : rfR m S2 σ1 σ2) (h3 : rfR m S3 σ2 σ3) : rfR m (S1 ++ S2 ++ S3) σ σ3 :=
  ((h1.mo (fun r q => by simp [q])).tr (h2.mo (fun r q => by simp [q]))).tr (h3.mo (fun r q => by simp [q]))
theorem rfR.tr4 {m : Nat} {S1 S2 : List Nat} {σ σ1 σ2 : St} (h1 : rfR m S1 σ σ1) (h2 : rfR m S2 σ1 σ2) : rfR m (S1 ++ S2) σ σ2 :=
  (h1.mo (fun r q => by simp [q])).tr (h2.mo (fun r q => by simp [q]))
theorem rfR.fi {m f : Nat} {S : List Nat} {v : Int32} {σ σ' : St} (h : rfR m S σ σ') (hf : Fi σ m f v) : Fi σ' m f v := hf.R h
theorem rfR.nv {m : Nat} {S : List Nat} {σ σ' : St} (h : rfR m S σ σ') : rfM m [5] [1, 2] nV σ σ' := h.M.mo ⟨fun _ q => (by cases q), fun _ q => q⟩ (fun _ q => q)
theorem RTx.R {m : Nat} {S : List Nat} {t : List Nat} {σ σ' : St} (h : RTx σ m t) (hR : rfR m S σ σ') : RTx σ' m t := h.keep (V := nV) hR.M (by simp) (by simp)
/-- what the number's loop holds -/
def NbI (m : Nat) (t : List Nat) (s a r e vm k k5 : Nat) (σ0 σ : St) : Prop := rfM m [5] [1, 2] nV σ0 σ ∧ MS σ m ∧ RTx σ m t ∧ Fi σ m 5 (nI vm) ∧ (Fi σ m 14 (nI a) ∧ Fi σ m 15 (nI r) ∧ Fi σ m 16 (nI e)) ∧ Rv σ m 6 (dgf t (k - s) s 0) ∧ Rv σ m 7 (10 ^ dnk a r k) ∧ Rv σ m 5 (if r < k5 then dgf t (r - s) s 0 else 0)
def MnQ (m vm : Nat) (q : Qv) (σ0 σ' : St) (v : Int32) : Prop := rfM m [5] [1, 2] (fun j => j = vm) σ0 σ' ∧ v = nI vm ∧ Fi σ' m 5 (nI (vm + 1)) ∧ Vl σ' m vm q
theorem mn_p {k : Nat} (h : k ≤ 200) : 10 ^ k < 10000 ^ 100 := Nat.lt_of_le_of_lt (p10 h) (by decide)
theorem mn_d {t : List Nat} {k s : Nat} (h : k ≤ 200) : dgf t k s 0 < 10000 ^ 100 := by
  have := dgf_b (t := t) k s 0
  have h2 := mn_p h
  omega
theorem mn_226 {m vm x y : Nat} {σ0 σ : St} (hm : MS σ m) (h5 : Fi σ m 5 (nI vm)) (hv : vm < 12600) (hx : x < 10000 ^ 100) (hy : y < 10000 ^ 100) (h0 : 0 < y) (hA : Rv σ m 6 x) (hB : Rv σ m 7 y) (hR : rfM m [5] [1, 2] nV σ0 σ) (hq : qsm (qmk 1 x y)) : Hx (fX12_makesNumber_226 σ m) (MnQ m vm (qmk 1 x y) σ0) := by
  rw [n_fX12_makesNumber_226, rf_ck hm]
  refine hx_bs ?_
  rw [show nI 1 = iz 1 from rfl]
  refine Hx.bd (rf_keepsMade (s := 1) hm h5 hv (show 100 ≤ 978 by omega) hx hy h0 (fun _ => Or.inl rfl) hA hB) (fun σ1 v h => ?_)
  obtain ⟨h1, h2, h3⟩ := h
  obtain ⟨g1, g2, g3⟩ := h2 hq
  exact Hx.ret ⟨(hR.mo ⟨fun _ q => q, fun _ q => q⟩ (fun _ q => q.elim)).tr h1, g1, g2, g3⟩
theorem mn_181 {m vm r e x y : Nat} {σ0 : St} (hv : vm < 12600) (hr : r + 2 < e ∧ e ≤ r + 8 ∧ e ≤ 200) (hx : x < 10000 ^ 100) (hy : y < 10 ^ 200 ∧ 0 < y) (hq : qsm (qmk 1 x (y * (10 ^ (e - r - 2) - 1)))) : ∀ (n j : Nat) (σ : St), e - r - 2 - j < n → j ≤ e - r - 2 → MS σ m → Fi σ m 5 (nI vm) → Fi σ m 16 (nI e) → Rv σ m 6 x → Rv σ m 7 y → rfM m [5] [1, 2] nV σ0 σ →
    Hx (fX12_makesNumber_181 n σ m (nI (10 ^ j - 1)) (nI (r + 1 + j))) (MnQ m vm (qmk 1 x (y * (10 ^ (e - r - 2) - 1))) σ0) := by
  intro n
  induction n with
  | zero => intro j σ h; omega
  | succ n ih =>
    intro j σ hn hj hm h5 h16 hA hB hR
    have p1 : 1 ≤ 10 ^ j := Nat.pow_pos (by omega)
    have p2 := p10 (show j ≤ 6 by omega)
    have e6 : (10 : Nat) ^ 6 = 1000000 := rfl
    rw [n_fX12_makesNumber_181, fi_g hm h16]
    refine hx_bs ?_
    rw [sm_sub (by omega)]
    refine Hx.ce (sm_le (by omega) (by omega)) (fun c => ?_) (fun c => ?_)
    · have ej : j = e - r - 2 := by omega
      rw [← ej]
      rw [← ej] at hq
      rw [rf_ck hm]
      refine hx_bs (rv_puts hm (by omega) (by omega) (fun σ1 r1 v1 => ?_))
      have hm1 := r1.ms hm
      rw [rf_ck hm1]
      have hy1 : y < 10000 ^ 100 := Nat.lt_trans hy.1 (by decide)
      refine hx_bs (rv_multiplies (t := 5) (a := 7) (b := 4) hm1 (by omega) (by omega) (by omega) (by omega) (by omega) hy1 (Nat.lt_of_le_of_lt (show 10 ^ j - 1 ≤ 1000000 by omega) (by decide)) (hB.keep r1 (by simp)) v1 (fun σ2 r2 v2 => ?_))
      have hm2 := r2.ms hm1
      rw [rf_ck hm2]
      refine hx_bs (rv_copies hm2 (by omega) (by omega) (by omega) v2 (fun σ3 r3 v3 => ?_))
      have hm3 := r3.ms hm2
      have hyy : y * (10 ^ j - 1) < 10000 ^ 100 := by
        have u1 : y * (10 ^ j - 1) ≤ 10 ^ 200 * 1000000 := Nat.mul_le_mul (by omega) (by omega)
        exact Nat.lt_of_le_of_lt u1 (by decide)
      have p3 := p10 (show 1 ≤ j by omega)
      have e1 : (10 : Nat) ^ 1 = 10 := rfl
      exact mn_226 hm3 (r3.fi (r2.fi (r1.fi h5))) hv hx hyy (Nat.mul_pos hy.2 (by omega)) (((hA.keep r1 (by simp)).keep r2 (by simp)).keep r3 (by simp)) v3 (((hR.tr r1.nv).tr r2.nv).tr r3.nv) hq
    · rw [sm_mul, sm_add, sm_add]
      refine hx_nm (hx_nm ?_)
      rw [show 10 * (10 ^ j - 1) + 9 = 10 ^ (j + 1) - 1 by rw [Nat.pow_succ]; omega]
      exact ih (j + 1) σ (by omega) (by omega) hm h5 h16 hA hB hR
theorem NbI.R {m : Nat} {t : List Nat} {s a r e vm k k5 : Nat} {S : List Nat} {σ0 σ σ' : St} (h : NbI m t s a r e vm k k5 σ0 σ) (hR : rfR m S σ σ') : rfM m [5] [1, 2] nV σ0 σ' ∧ MS σ' m ∧ RTx σ' m t ∧ Fi σ' m 5 (nI vm) ∧ (Fi σ' m 14 (nI a) ∧ Fi σ' m 15 (nI r) ∧ Fi σ' m 16 (nI e)) := by
  obtain ⟨h1, h2, h3, h4, ⟨h5, h6, h7⟩, _⟩ := h
  exact ⟨h1.tr hR.nv, hR.ms h2, h3.R hR, hR.fi h4, hR.fi h5, hR.fi h6, hR.fi h7⟩
theorem mn_83 {m s a r e vm k c : Nat} {t : List Nat} {σ0 : St} {Q : St → Int32 → Prop} {k56 : St → Nat → Int32 → Int32 → Option (St × Int32)} (hN : Nbd t s a r e) (hl : t.length ≤ 200) (hc : c = if r < e then 1 else 0) (hk : s ≤ k ∧ k < e) (hK : ∀ σ', NbI m t s a r e vm (k + 1) (k + 1) σ0 σ' → Hx (k56 σ' m (nI c) (nI (k + 1))) Q) {σ : St} (h : NbI m t s a r e vm k (k + 1) σ0 σ) : Hx (fX12_makesNumber_83 k56 σ m (nI c) (nI k)) Q := by
  have h0 := h
  obtain ⟨h1, hm, ht, h5, ⟨h14, h15, h16⟩, r6, r7, r5⟩ := h
  obtain ⟨⟨n1, n2, n3, n4⟩, n5, n6, n7⟩ := hN
  have c2 : c < 2 := by rw [hc]; split <;> omega
  have hcr : (c = 0) ↔ ¬ r < e := by rw [hc]; split <;> omega
  have fin : ∀ σ', NbI m t s a r e vm (k + 1) (k + 1) σ0 σ' → Hx (fX12_makesNumber_155 k56 σ' m (nI c) (nI k)) Q := by
    intro σ' g
    rw [n_fX12_makesNumber_155, sm_add]
    exact hx_nm (hK σ' g)
  have e1 : dgf t (k + 1 - s) s 0 = if isD (tb t k) = true then 10 * dgf t (k - s) s 0 + (tb t k - 48) else dgf t (k - s) s 0 := by
    rw [show k + 1 - s = (k - s) + 1 by omega, dgf_app, dgf_1, show s + (k - s) = k by omega]
  rw [n_fX12_makesNumber_83, rf_tape hm]
  refine hx_bs ?_
  rw [ht.l hm (by omega)]
  refine hx_bs ?_
  rw [rt_isDigit (ht.b k)]
  refine hx_cs (Hx.ce nb0 (fun c1 => ?_) (fun c1 => ?_))
  · rw [if_neg c1] at e1
    refine fin σ ⟨h1, hm, ht, h5, ⟨h14, h15, h16⟩, ?_, ?_, r5⟩
    · rw [e1]; exact r6
    · have : dnk a r (k + 1) = dnk a r k := by
        unfold dnk
        by_cases q1 : k < a
        · omega
        · by_cases q2 : k = a
          · omega
          · by_cases q3 : k < r
            · exact absurd (n6 k (by omega) q3) c1
            · omega
      rw [this]; exact r7
  · have c1 := Classical.not_not.mp c1
    rw [if_pos c1] at e1
    have hka : k ≠ a := fun q => (n5 (by omega)).2 (q ▸ c1)
    have hb := isD_i.mp c1
    rw [rf_ck hm]
    refine hx_bs (rv_times hm (by omega) (by omega) (mn_d (by omega)) r6 (fun σ1 w1 v1 => ?_))
    obtain ⟨i1, i2, i3, i4, i5, i6, i7⟩ := h0.R w1
    rw [rf_tape i2]
    refine hx_bs ?_
    rw [i3.l i2 (by omega)]
    refine hx_bs ?_
    rw [rf_ck i2]
    refine hx_bs ?_
    rw [sm_sub (by omega)]
    refine rv_puts i2 (by omega) (by omega) (fun σ2 w2 v2 => ?_)
    rw [rf_ck (w2.ms i2)]
    have hx1 : dgf t (k - s) s 0 * 10 < 10000 ^ 100 := by
      have u1 := dgf_b (t := t) (k - s) s 0
      have u2 := mn_p (show k - s + 1 ≤ 200 by omega)
      rw [Nat.pow_succ] at u2
      omega
    refine hx_bs (rv_adds (w2.ms i2) (by omega) (by omega) (by omega) hx1 (Nat.lt_of_le_of_lt (show tb t k - 48 ≤ 9 by omega) (by decide)) (v1.keep w2 (by simp)) v2 (fun σ3 w3 v3 => ?_))
    have w := w1.tr' w2 w3
    obtain ⟨j1, j2, j3, j4, j5, j6, j7⟩ := h0.R w
    rw [show dgf t (k - s) s 0 * 10 + (tb t k - 48) = dgf t (k + 1 - s) s 0 by rw [e1, Nat.mul_comm]] at v3
    have x5 := ((r5.keep w1 (by simp)).keep w2 (by simp)).keep w3 (by simp)
    have x7 := ((r7.keep w1 (by simp)).keep w2 (by simp)).keep w3 (by simp)
    rw [fi_g j2 j5]
    refine hx_bs (Hx.ce (sm_le (by omega) (by omega)) (fun c3 => ?_) (fun c3 => ?_))
    · refine fin σ3 ⟨j1, j2, j3, j4, ⟨j5, j6, j7⟩, v3, ?_, x5⟩
      rw [show dnk a r (k + 1) = dnk a r k by unfold dnk; omega]
      exact x7
    · have more : k < r → Hx (fX12_makesNumber_147 k56 σ3 m (nI c) (nI k)) Q := by
        intro hkr
        have hd : dnk a r k ≤ 200 := by unfold dnk; omega
        rw [n_fX12_makesNumber_147, rf_ck j2]
        refine hx_bs (rv_times j2 (by omega) (by omega) (mn_p hd) x7 (fun σ4 w4 v4 => ?_))
        obtain ⟨l1, l2, l3, l4, l5⟩ := h0.R (w.tr4 w4)
        refine fin σ4 ⟨l1, l2, l3, l4, l5, v3.keep w4 (by simp), ?_, x5.keep w4 (by simp)⟩
        rw [show dnk a r (k + 1) = dnk a r k + 1 by unfold dnk; omega, Nat.pow_succ]
        exact v4
      refine Hx.ce (sm_eq (by omega) (by omega)) (fun c4 => more (by have := hcr.mp c4; omega)) (fun c4 => ?_)
      rw [fi_g j2 j6]
      refine hx_bs (Hx.ce (sm_le (by omega) (by omega)) (fun c5 => ?_) (fun c5 => more (by omega)))
      refine fin σ3 ⟨j1, j2, j3, j4, ⟨j5, j6, j7⟩, v3, ?_, x5⟩
      rw [show dnk a r (k + 1) = dnk a r k by unfold dnk; omega]
      exact x7
theorem mn_56 {m s a r e vm c : Nat} {t : List Nat} {σ0 : St} (hN : Nbd t s a r e) (hl : t.length ≤ 200) (hc : c = if r < e then 1 else 0) (hv : vm < 12600) (hq : qok (nmq t s))
    (hX : nmp t s = (if r < e then (dgf t (r - s) s 0 * (10 ^ (e - r - 2) - 1) + dgf t (e - r - 2) (r + 1) 0, 10 ^ dnk a r e * (10 ^ (e - r - 2) - 1)) else (dgf t (e - s) s 0, 10 ^ dnk a r e))) : ∀ (n k : Nat) (σ : St), e - k < n → s ≤ k → k ≤ e → NbI m t s a r e vm k k σ0 σ → Hx (fX12_makesNumber_56 n σ m (nI c) (nI k)) (MnQ m vm (nmq t s) σ0) := by
  have c2 : c < 2 := by rw [hc]; split <;> omega
  have hcr : (c = 0) ↔ ¬ r < e := by rw [hc]; split <;> omega
  have hN0 := hN
  obtain ⟨⟨n1, n2, n3, n4⟩, n5, n6, n7⟩ := hN0
  have hq' : qsm (qmk 1 (nmp t s).1 (nmp t s).2) := ⟨hq.2.2.2.2.1, hq.2.2.2.2.2⟩
  intro n
  induction n with
  | zero => intro k σ h; omega
  | succ n ih =>
    intro k σ hn hsk hke h
    have h0 := h
    obtain ⟨h1, hm, ht, h5, ⟨h14, h15, h16⟩, r6, r7, r5⟩ := h
    have hdn : dnk a r e ≤ 200 := by unfold dnk; omega
    rw [n_fX12_makesNumber_56, fi_g hm h16]
    refine hx_bs (Hx.ce (sm_le (by omega) (by omega)) (fun c1 => ?_) (fun c1 => ?_))
    · have ek : k = e := by omega
      subst ek
      refine Hx.ce (sm_eq (by omega) (by omega)) (fun c3 => ?_) (fun c3 => ?_)
      · have hre := hcr.mp c3
        rw [if_neg hre] at hX
        unfold nmq
        rw [hX] at hq' ⊢
        exact mn_226 hm h5 hv (mn_d (by omega)) (mn_p hdn) (Nat.pow_pos (by omega)) r6 r7 h1 hq'
      · have hre : r < k := by
          apply Classical.byContradiction
          intro q
          exact c3 (hcr.mpr q)
        obtain ⟨o1, o2, o3, o4, o5⟩ := n7 hre
        rw [if_pos hre] at hX r5
        have e91 : ¬ isD (tb t r) = true := by rw [o1, isD_i]; omega
        have ed : dgf t (k - s) s 0 = dgf t (r - s) s 0 * 10 ^ (k - r - 2) + dgf t (k - r - 2) (r + 1) 0 := by
          rw [show k - s = (r - s) + (1 + ((k - r - 2) + 1)) by omega, dgf_app, dgf_app, dgf_app, dgf_1, dgf_1, show s + (r - s) = r by omega, if_neg e91, if_neg (by rw [show r + 1 + (k - r - 2) = k - 1 by omega]; exact o2)]
          exact dgf_lin _ _ _ (fun j h1 h2 => o5 j (by omega) (by omega))
        have p1 : 1 ≤ 10 ^ (k - r - 2) := Nat.pow_pos (by omega)
        have p2 : dgf t (r - s) s 0 ≤ dgf t (r - s) s 0 * 10 ^ (k - r - 2) := Nat.le_mul_of_pos_right _ p1
        rw [rf_ck hm]
        refine hx_bs (rv_takesAway hm (by omega) (by omega) (by omega) (by omega) r6 r5 (fun σ1 w1 v1 => ?_))
        obtain ⟨i1, i2, i3, i4, i5, i6, i7⟩ := h0.R w1
        rw [fi_g i2 i6]
        refine hx_bs ?_
        rw [sm_add]
        refine hx_nm ?_
        have ex : dgf t (k - s) s 0 - dgf t (r - s) s 0 = dgf t (r - s) s 0 * (10 ^ (k - r - 2) - 1) + dgf t (k - r - 2) (r + 1) 0 := by
          rw [ed, Nat.mul_sub, Nat.mul_one]
          omega
        rw [ex] at v1
        unfold nmq
        rw [hX] at hq' ⊢
        refine mn_181 (x := dgf t (r - s) s 0 * (10 ^ (k - r - 2) - 1) + dgf t (k - r - 2) (r + 1) 0) (y := 10 ^ dnk a r k) hv ⟨o3, o4, by omega⟩ ?_ ⟨?_, Nat.pow_pos (by omega)⟩ hq' FU 0 σ1 (by unfold FU; omega) (by omega) i2 i4 i7 v1 (r7.keep w1 (by simp)) i1
        · rw [← ex]
          exact Nat.lt_of_le_of_lt (Nat.sub_le _ _) (mn_d (by omega))
        · exact Nat.pow_lt_pow_right (by omega) (by unfold dnk; omega)
    · have nxt : ∀ σ', NbI m t s a r e vm (k + 1) (k + 1) σ0 σ' → Hx (fX12_makesNumber_56 n σ' m (nI c) (nI (k + 1))) (MnQ m vm (nmq t s) σ0) := fun σ' g => ih (k + 1) σ' (by omega) (by omega) (by omega) g
      rw [fi_g hm h15]
      refine hx_bs (Hx.ce (sm_eq (by omega) (by omega)) (fun c3 => ?_) (fun c3 => ?_))
      · refine Hx.ce (sm_eq (by omega) (by omega)) (fun c4 => absurd (hcr.mp c4) (by omega)) (fun c4 => ?_)
        rw [rf_ck hm]
        refine hx_bs (rv_copies hm (by omega) (by omega) (by omega) r6 (fun σ1 w1 v1 => ?_))
        obtain ⟨i1, i2, i3, i4, i5⟩ := h0.R w1
        refine mn_83 hN hl hc ⟨hsk, by omega⟩ nxt ⟨i1, i2, i3, i4, i5, r6.keep w1 (by simp), r7.keep w1 (by simp), ?_⟩
        rw [if_pos (by omega), ← c3]
        exact v1
      · refine mn_83 hN hl hc ⟨hsk, by omega⟩ nxt ⟨h1, hm, ht, h5, ⟨h14, h15, h16⟩, r6, r7, ?_⟩
        by_cases q : r < k
        · rw [if_pos q] at r5; rw [if_pos (by omega)]; exact r5
        · rw [if_neg q] at r5; rw [if_neg (by omega)]; exact r5
theorem rt_makesNumber {m s e vm : Nat} {t : List Nat} {σ : St} (hm : MS σ m) (ht : RTx σ m t) (h9 : Nat9 t s) (he : eN t s = some e) (h11 : Fi σ m 11 (nI s)) (hF : NbF σ m t s e) (h5 : Fi σ m 5 (nI vm)) (hv : vm < 12600) : Hx (fX12_makesNumber σ m) (MnQ m vm (nmq t s) σ) := by
  have hl := ht.1.2
  obtain ⟨hN, hX⟩ := nbd_of h9 he
  obtain ⟨h14, h15, h16⟩ := hF
  have hq := nmq_ok h9
  generalize (if tb t (ew isD t s) = 46 then ew isD t (ew isD t s + 1) else ew isD t s) = r at *
  generalize ew isD t s = a at *
  obtain ⟨⟨n1, n2, n3, n4⟩, n5, n6, n7⟩ := hN
  rw [n_fX12_makesNumber, rf_ck hm]
  refine hx_bs (rv_puts hm (by omega) (by omega) (fun σ1 w1 v1 => ?_))
  rw [rf_ck (w1.ms hm)]
  refine hx_bs (rv_puts (w1.ms hm) (by omega) (by omega) (fun σ2 w2 v2 => ?_))
  rw [rf_ck (w2.ms (w1.ms hm))]
  refine hx_bs (rv_puts (w2.ms (w1.ms hm)) (by omega) (by omega) (fun σ3 w3 v3 => ?_))
  have hm3 := w3.ms (w2.ms (w1.ms hm))
  have f15 := w3.fi (w2.fi (w1.fi h15))
  have f16 := w3.fi (w2.fi (w1.fi h16))
  have hI : NbI m t s a r e vm s s σ σ3 := by
    refine ⟨(w1.nv.tr w2.nv).tr w3.nv, hm3, ((ht.R w1).R w2).R w3, w3.fi (w2.fi (w1.fi h5)), ⟨w3.fi (w2.fi (w1.fi h14)), f15, f16⟩, ?_, ?_, ?_⟩
    · rw [Nat.sub_self]; exact (v1.keep w2 (by simp)).keep w3 (by simp)
    · rw [show dnk a r s = 0 by unfold dnk; omega]; exact v2.keep w3 (by simp)
    · rw [if_neg (by omega)]; exact v3
  have go : Hx (fX12_makesNumber_50 σ3 m (nI (if r < e then 1 else 0))) (MnQ m vm (nmq t s) σ) := by
    rw [n_fX12_makesNumber_50, fi_g hm3 (w3.fi (w2.fi (w1.fi h11)))]
    exact hx_bs (mn_56 ⟨⟨n1, n2, n3, n4⟩, n5, n6, n7⟩ hl rfl hv hq hX FU s σ3 (by unfold FU; omega) (Nat.le_refl _) (by omega) hI)
  have go0 : ¬ r < e → Hx (fX12_makesNumber_49 σ3 m) (MnQ m vm (nmq t s) σ) := by
    intro q
    rw [if_neg q] at go
    rw [n_fX12_makesNumber_49]
    exact go
  rw [fi_g hm3 f15]
  refine hx_bs ?_
  rw [fi_g hm3 f16]
  refine hx_bs (Hx.ce (sm_le (by omega) (by omega)) (fun c => go0 (by omega)) (fun c => ?_))
  rw [rf_tape hm3]
  refine hx_bs (hx_bs ?_)
  rw [hI.2.2.1.l hm3 (by omega)]
  refine hx_bs ?_
  rw [(n7 (by omega)).1]
  refine Hx.ce (sm_eq (by omega) (by omega)) (fun c1 => ?_) (fun c1 => absurd rfl c1)
  rw [if_pos (by omega)] at go
  exact go
