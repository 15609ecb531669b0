/-! ===== digits of a number of limbs ===== -/
theorem dl_shift : ∀ (k x : Nat), x < 10 ^ 59 → x / 10 ^ k ≠ 0 → (dl x).length = (dl (x / 10 ^ k)).length + k := by
  intro k
  induction k with
  | zero => intro x h1 h2; rw [Nat.pow_zero, Nat.div_one]; rfl
  | succ k ih =>
    intro x h1 h2
    have e : x / 10 ^ (k + 1) = x / 10 / 10 ^ k := by rw [Nat.pow_succ, Nat.mul_comm, Nat.div_div_eq_div_mul]
    have hx : x ≠ 0 := fun z => h2 (by rw [z, Nat.zero_div])
    rw [e] at h2 ⊢
    rw [dl_st h1 hx, List.length_append, List.length_singleton, ih (x / 10) (by omega) h2]
    omega
theorem dl_get : ∀ (n x i : Nat), x < 10 ^ 59 → (dl x).length = n → i < n → (dl x)[i]? = some (x / 10 ^ (n - 1 - i) % 10) := by
  intro n
  induction n with
  | zero => intro x i _ _ h; omega
  | succ n ih =>
    intro x i h1 h2 hi
    have hx : x ≠ 0 := fun z => by rw [z, dl_0] at h2; cases h2
    rw [dl_st h1 hx, List.length_append, List.length_singleton] at h2
    rw [dl_st h1 hx]
    by_cases c : i = n
    · subst c
      rw [List.getElem?_append_right (by omega), show i - (dl (x / 10)).length = 0 by omega, show i + 1 - 1 - i = 0 by omega, Nat.pow_zero, Nat.div_one]
      rfl
    · rw [List.getElem?_append_left (by omega), ih (x / 10) i (by omega) (by omega) (by omega), Nat.div_div_eq_div_mul]
      rw [show 10 * 10 ^ (n - 1 - i) = 10 ^ (n + 1 - 1 - i) by rw [Nat.mul_comm, ← Nat.pow_succ]; congr 1; omega]
theorem dgx_get {x i : Nat} (h1 : x < 10 ^ 59) (hi : i < (dgx x).length) : (dgx x)[i]? = some (x / 10 ^ ((dgx x).length - 1 - i) % 10) := by
  unfold dgx at hi ⊢
  by_cases c : x = 0
  · subst c
    have hi : i < 1 := hi
    have : i = 0 := by omega
    subst this
    rfl
  · rw [if_neg c] at hi ⊢
    exact dl_get _ x i h1 rfl hi
theorem cn_dc31 : ∀ (k n c v : Nat) (σ : St), k < n → v < 10 ^ k → k ≤ 9 → c + k ≤ 10000 → fX3_digitCount_31 n σ (nI c) (nI v) = some (σ, nI (c + (dl v).length)) := by
  intro k
  induction k with
  | zero =>
    intro n c v σ hn hv hk hc
    obtain ⟨n, rfl⟩ : ∃ j, n = j + 1 := ⟨n - 1, by omega⟩
    have : v = 0 := by rw [Nat.pow_zero] at hv; omega
    subst this
    rw [n_fX3_digitCount_31, if_pos (by rw [sm_le (by omega) (by omega)]; exact Nat.le_refl _)]
    rfl
  | succ k ih =>
    intro n c v σ hn hv hk hc
    obtain ⟨n, rfl⟩ : ∃ j, n = j + 1 := ⟨n - 1, by omega⟩
    have hv10 : 10 ^ (k + 1) ≤ 10 ^ 9 := Nat.pow_le_pow_right (by omega) hk
    rw [n_fX3_digitCount_31]
    by_cases c0 : v = 0
    · subst c0
      rw [if_pos (by rw [sm_le (by omega) (by omega)]; exact Nat.le_refl _)]
      rfl
    · rw [if_neg (by rw [sm_le (by omega) (by omega)]; omega), sm_add, sm_div (by omega) (by omega) (by omega)]
      show fX3_digitCount_31 n σ (nI (c + 1)) (nI (v / 10)) = _
      rw [Nat.pow_succ] at hv
      rw [ih n (c + 1) (v / 10) σ (by omega) (by omega) (by omega) (by omega), dl_st (y := v) (by omega) c0, List.length_append, List.length_singleton]
      congr 3
      omega
theorem cn_digitCount {σ : St} {a x : Nat} (h : Nt σ a x) (hx : x < 10 ^ 36) : fX3_digitCount σ a = some (σ, nI (dgx x).length) := by
  obtain ⟨l, n, w, ⟨h1, h2, h3, h4, h5, h6⟩, ⟨h7, h8, h9⟩, h10, h11⟩ := h
  have hw : w ≤ 4 := by
    rcases h11 with q | q
    · omega
    · apply Nat.le_of_not_lt
      intro hu
      have : 1000000000 ^ 4 ≤ 1000000000 ^ (w - 1) := Nat.pow_le_pow_right (by omega) (by omega)
      omega
  apply hx_eq
  rw [n_fX3_digitCount, (sm_gI h1).trans (congrArg some h7)]
  refine hx_bs (Hx.ce (sm_eq (by omega) (by omega)) (fun c => ?_) (fun c => ?_))
  · have : x = 0 := by rw [c, Nat.pow_zero] at h9; omega
    subst this
    exact Hx.ret ⟨rfl, rfl⟩
  · refine hx_bs ?_
    rw [sm_sub (by omega), sm_mul]
    refine hx_nm ?_
    rw [(sm_gF h1).trans (congrArg some h2)]
    refine hx_bs ?_
    refine hx_bs ?_
    have ep : 1000000000 ^ (w - 1) = 10 ^ (9 * (w - 1)) := by rw [Nat.pow_mul]
    have hw1 : w - 1 + 1 = w := by omega
    have htop : bq x (w - 1) < 1000000000 := by
      unfold bq
      refine Nat.div_lt_of_lt_mul ?_
      rw [← Nat.pow_succ, show (w - 1).succ = w from hw1]
      exact h9
    have hxp : x ≠ 0 := by
      rcases h11 with q | q
      · exact absurd q c
      · have : 0 < 1000000000 ^ (w - 1) := Nat.pow_pos (by omega)
        omega
    have hne : bq x (w - 1) ≠ 0 := by
      rcases h11 with q | q
      · exact absurd q c
      · unfold bq
        have : 0 < x / 1000000000 ^ (w - 1) := Nat.div_pos q (Nat.pow_pos (by omega))
        omega
    rw [sm_sub (by omega), sm_ld h3 (by omega) (by omega), h8 (w - 1) (by omega), Nat.mod_eq_of_lt htop]
    refine hx_bs ?_
    rw [cn_dc31 9 FU ((w - 1) * 9) (bq x (w - 1)) σ (by unfold FU; omega) htop (by omega) (by omega)]
    refine Hx.ret ⟨rfl, ?_⟩
    have ed : dgx x = dl x := by unfold dgx; rw [if_neg hxp]
    have eb : bq x (w - 1) = x / 10 ^ (9 * (w - 1)) := by unfold bq; rw [ep]
    rw [ed, eb]
    rw [eb] at hne
    rw [dl_shift (9 * (w - 1)) x (by omega) hne]
    congr 1
    omega
theorem cn_da24 : ∀ (k n v : Nat) (σ : St), k < n → k < 100 → v < 1000000000 → fX3_digitAt_24 n σ (nI v) (nI k) = some (σ, nI (v / 10 ^ k % 10)) := by
  intro k
  induction k with
  | zero =>
    intro n v σ hn _ hv
    obtain ⟨n, rfl⟩ : ∃ j, n = j + 1 := ⟨n - 1, by omega⟩
    rw [n_fX3_digitAt_24, if_pos (by rw [sm_le (by omega) (by omega)]; exact Nat.le_refl _), sm_div (by omega) (by omega) (by omega), sm_mul, sm_sub (by omega), Nat.pow_zero, Nat.div_one]
    congr 3
    omega
  | succ k ih =>
    intro n v σ hn hk hv
    obtain ⟨n, rfl⟩ : ∃ j, n = j + 1 := ⟨n - 1, by omega⟩
    rw [n_fX3_digitAt_24, if_neg (by rw [sm_le (by omega) (by omega)]; omega), sm_div (by omega) (by omega) (by omega)]
    show fX3_digitAt_24 n σ (nI (v / 10)) (nI (k + 1) + iz (-1)) = _
    have e : nI (k + 1) + iz (-1) = nI k := by
      rw [sm_iz, iz_add, sm_iz]
      congr 1
      omega
    rw [e, ih n (v / 10) σ (by omega) (by omega) (by omega), Nat.div_div_eq_div_mul, Nat.pow_succ, Nat.mul_comm]
theorem bq_dig (x k : Nat) {j : Nat} (hj : j < 9) : bq x k % 1000000000 / 10 ^ j % 10 = x / 10 ^ (9 * k + j) % 10 := by
  have e : x / 10 ^ (9 * k + j) = bq x k / 10 ^ j := by
    unfold bq
    rw [Nat.div_div_eq_div_mul, Nat.pow_add, Nat.pow_mul]
  rw [e]
  generalize bq x k = a
  have : j = 0 ∨ j = 1 ∨ j = 2 ∨ j = 3 ∨ j = 4 ∨ j = 5 ∨ j = 6 ∨ j = 7 ∨ j = 8 := by omega
  rcases this with rfl | rfl | rfl | rfl | rfl | rfl | rfl | rfl | rfl <;> simp <;> omega
theorem cn_digitAt {σ : St} {a x i : Nat} (h : Nt σ a x) (hx : x < 10 ^ 36) (hi : i < (dgx x).length) : fX3_digitAt σ a (nI i) = some (σ, nI (x / 10 ^ ((dgx x).length - 1 - i) % 10)) := by
  have hl := dgx_len hx
  apply hx_eq
  have hk8 : sK σ a = 8 := by obtain ⟨l, n, w, h1, _⟩ := h; exact h1.1
  rw [n_fX3_digitAt, sm_ckK hk8]
  refine hx_bs ?_
  rw [cn_digitCount h hx]
  refine hx_cs ?_
  rw [sm_sub (by omega), sm_sub (by omega)]
  refine hx_nm ?_
  rw [sm_ckK hk8]
  refine hx_bs ?_
  rw [sm_div (by omega) (by omega) (by omega), cn_limb h (by omega)]
  refine hx_cs ?_
  rw [sm_mul, sm_sub (by omega)]
  refine hx_nm ?_
  generalize (dgx x).length - 1 - i = p at *
  rw [cn_da24 _ FU _ σ (by unfold FU; omega) (by omega) (Nat.mod_lt _ (by omega)), bq_dig x (p / 9) (j := p - p / 9 * 9) (by omega), show 9 * (p / 9) + (p - p / 9 * 9) = p by omega]
  exact Hx.ret ⟨rfl, rfl⟩
