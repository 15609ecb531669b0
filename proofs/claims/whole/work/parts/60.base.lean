/-! ===== the class' numbers: limbs of nine decimal digits ===== -/
theorem bp_pos (k : Nat) : 0 < 1000000000 ^ k := Nat.pow_pos (by omega)
def bq (x k : Nat) : Nat := x / 1000000000 ^ k
theorem bq_0 (x : Nat) : bq x 0 = x := by unfold bq; rw [Nat.pow_zero, Nat.div_one]
theorem bq_le (x k : Nat) : bq x k ≤ x := Nat.div_le_self _ _
theorem bq_mono {x y : Nat} (k : Nat) (h : x ≤ y) : bq x k ≤ bq y k := Nat.div_le_div_right h
theorem bp_dv (x k : Nat) : bq x (k + 1) = bq x k / 1000000000 := by unfold bq; rw [Nat.pow_succ, Nat.div_div_eq_div_mul]
theorem bp_lt {x k : Nat} : x < 1000000000 ^ k ↔ bq x k = 0 := (Nat.div_eq_zero_iff_lt (bp_pos k)).symm
theorem bp_ge {x k : Nat} : 1000000000 ^ k ≤ x ↔ 0 < bq x k := by
  have := @bp_lt x k
  omega
theorem bq_add_le (x y k : Nat) : bq x k + bq y k ≤ bq (x + y) k := by
  unfold bq
  rw [Nat.le_div_iff_mul_le (bp_pos k), Nat.add_mul]
  exact Nat.add_le_add (Nat.div_mul_le_self x _) (Nat.div_mul_le_self y _)
theorem bq_add_lt (x y k : Nat) : bq (x + y) k ≤ bq x k + bq y k + 1 := by
  unfold bq
  have hz := bp_pos k
  generalize 1000000000 ^ k = P at hz
  have q1 := Nat.div_add_mod x P
  have q2 := Nat.div_add_mod y P
  have q3 := Nat.mod_lt x hz
  have q4 := Nat.mod_lt y hz
  apply Nat.le_of_lt_succ
  rw [Nat.div_lt_iff_lt_mul hz]
  have e9 : (x / P + y / P + 1 + 1) * P = P * (x / P) + P * (y / P) + P + P := by
    rw [Nat.add_mul, Nat.add_mul, Nat.add_mul, Nat.one_mul, Nat.mul_comm (x / P), Nat.mul_comm (y / P)]
  rw [Nat.succ_eq_add_one, e9]
  omega
theorem bq_mul_le (x c k : Nat) : bq x k * c ≤ bq (x * c) k := by
  unfold bq
  rw [Nat.le_div_iff_mul_le (bp_pos k), Nat.mul_assoc, Nat.mul_comm c, ← Nat.mul_assoc]
  exact Nat.mul_le_mul_right c (Nat.div_mul_le_self x _)
theorem bq_mul_lt (x c k : Nat) : bq (x * c) k ≤ bq x k * c + c := by
  unfold bq
  have hz := bp_pos k
  generalize 1000000000 ^ k = P at hz
  have q1 := Nat.div_add_mod x P
  have q3 := Nat.mod_lt x hz
  apply Nat.le_of_lt_succ
  rw [Nat.div_lt_iff_lt_mul hz]
  have e1 : x * c = P * (x / P * c) + x % P * c := by
    conv => lhs; rw [← q1, Nat.add_mul, Nat.mul_assoc]
  have e2 : x % P * c ≤ P * c := Nat.mul_le_mul_right c (Nat.le_of_lt q3)
  rw [Nat.succ_eq_add_one, Nat.add_mul, Nat.add_mul, Nat.one_mul, Nat.mul_comm (x / P * c), Nat.mul_comm c]
  omega
theorem bq_div (x c k : Nat) : bq (x / c) k = bq x k / c := by
  unfold bq
  rw [Nat.div_div_eq_div_mul, Nat.div_div_eq_div_mul, Nat.mul_comm]
theorem bp_mono {a b : Nat} (h : a ≤ b) : 1000000000 ^ a ≤ 1000000000 ^ b := Nat.pow_le_pow_right (by omega) h
theorem bwid_le {w x u : Nat} (h : w = 0 ∨ 1000000000 ^ (w - 1) ≤ x) (hx : x < 1000000000 ^ u) : w ≤ u := by
  rcases h with h | h
  · omega
  · apply Nat.le_of_not_lt
    intro hu
    have := bp_mono (a := u) (b := w - 1) (by omega)
    omega
theorem bwid_pos {w x : Nat} (hx : x < 1000000000 ^ w) (h0 : 0 < x) : 0 < w := by
  cases w with
  | zero => simp at hx; omega
  | succ n => omega
theorem bq_add_mul (a b k : Nat) : bq (a + 1000000000 ^ k * b) k = bq a k + b := by
  unfold bq
  rw [Nat.add_mul_div_left _ _ (bp_pos k)]
theorem bq_dq (x a b : Nat) : bq x (a + b) = bq (bq x a) b := by
  unfold bq
  rw [Nat.pow_add, Nat.div_div_eq_div_mul]
theorem bq_add_low {a b q j : Nat} (h : j < q) : bq (a + 1000000000 ^ q * b) j % 1000000000 = bq a j % 1000000000 := by
  have e : 1000000000 ^ q * b = 1000000000 ^ j * (1000000000 * (1000000000 ^ (q - j - 1) * b)) := by
    rw [show q = j + (1 + (q - j - 1)) by omega, Nat.pow_add, Nat.pow_add, Nat.pow_one, Nat.mul_assoc, Nat.mul_assoc]
    rw [show j + (1 + (q - j - 1)) - j - 1 = q - j - 1 by omega]
  rw [e, bq_add_mul, Nat.add_mul_mod_self_left]
theorem mod_bp (y k : Nat) : y % 1000000000 ^ (k + 1) = y % 1000000000 ^ k + 1000000000 ^ k * (bq y k % 1000000000) := Nat.mod_pow_succ
theorem bq_low (V F n i : Nat) (hi : i ≤ n) : bq (V + F * 1000000000 ^ (n + 1)) i % 1000000000 = bq V i % 1000000000 := by
  rw [Nat.mul_comm F]
  exact bq_add_low (by omega)
/-! ===== longs ===== -/
def nJ (n : Nat) : Int64 := Int64.ofNat n
def jz (z : Int) : Int64 := Int64.ofInt z
theorem jm_jz (n : Nat) : nJ n = jz (n : Int) := Int64.ofInt_eq_ofNat.symm
theorem jm_add (a b : Nat) : nJ a + nJ b = nJ (a + b) := (Int64.ofNat_add a b).symm
theorem jm_mul (a b : Nat) : nJ a * nJ b = nJ (a * b) := (Int64.ofNat_mul a b).symm
theorem jz_add (a b : Int) : jz a + jz b = jz (a + b) := (Int64.ofInt_add a b).symm
theorem jz_sub (a b : Int) : jz a - jz b = jz (a - b) := (Int64.ofInt_sub a b).symm
theorem jz_mul (a b : Int) : jz a * jz b = jz (a * b) := (Int64.ofInt_mul a b).symm
theorem jz_toInt {z : Int} (h1 : -9223372036854775808 ≤ z) (h2 : z < 9223372036854775808) : (jz z).toInt = z := Int64.toInt_ofInt_of_le (by omega) (by omega)
theorem jz_lt {a b : Int} (h1 : -9223372036854775808 ≤ a) (h2 : a < 9223372036854775808) (h3 : -9223372036854775808 ≤ b) (h4 : b < 9223372036854775808) : (jz a < jz b) = (a < b) := propext (by rw [Int64.lt_iff_toInt_lt, jz_toInt h1 h2, jz_toInt h3 h4])
theorem jz_eq {a b : Int} (h1 : -9223372036854775808 ≤ a) (h2 : a < 9223372036854775808) (h3 : -9223372036854775808 ≤ b) (h4 : b < 9223372036854775808) : (jz a = jz b) = (a = b) := propext ⟨fun h => by rw [← jz_toInt h1 h2, ← jz_toInt h3 h4, h], fun h => by rw [h]⟩
theorem jz_div {a b : Int} (h1 : 0 ≤ a) (h2 : a < 9223372036854775808) (h3 : 0 < b) (h4 : b < 9223372036854775808) : jz a / jz b = jz (a / b) := by
  have hm1 : Int64.minValue.toInt = -9223372036854775808 := rfl
  have hm2 : Int64.maxValue.toInt = 9223372036854775807 := rfl
  have h := Int64.ofInt_tdiv (a := a) (b := b) (by omega) (by omega) (by omega) (by omega)
  rw [Int.tdiv_eq_ediv_of_nonneg h1] at h
  exact h.symm
theorem jm_lt {a b : Nat} (h1 : a < 9223372036854775808) (h2 : b < 9223372036854775808) : (nJ a < nJ b) = (a < b) := by
  rw [jm_jz, jm_jz, jz_lt (by omega) (by omega) (by omega) (by omega)]
  exact propext (by omega)
theorem jm_eq {a b : Nat} (h1 : a < 9223372036854775808) (h2 : b < 9223372036854775808) : (nJ a = nJ b) = (a = b) := by
  rw [jm_jz, jm_jz, jz_eq (by omega) (by omega) (by omega) (by omega)]
  exact propext (by omega)
theorem jm_sub {a b : Nat} (h : b ≤ a) : nJ a - nJ b = nJ (a - b) := by
  rw [jm_jz, jm_jz, jm_jz, jz_sub]
  congr 1
  omega
theorem jm_div {a b : Nat} (h1 : a < 9223372036854775808) (h2 : 0 < b) (h3 : b < 9223372036854775808) : nJ a / nJ b = nJ (a / b) := by
  rw [jm_jz, jm_jz, jm_jz, jz_div (by omega) (by omega) (by omega) (by omega)]
  congr 1
theorem jm_mod {a b : Nat} (h1 : a < 9223372036854775808) (h2 : 0 < b) (h3 : b < 9223372036854775808) : nJ a - nJ a / nJ b * nJ b = nJ (a % b) := by
  have h4 : a / b * b ≤ a := Nat.div_mul_le_self a b
  rw [jm_div h1 h2 h3, jm_mul, jm_sub h4]
  congr 1
  rw [Nat.mod_eq_sub_div_mul]
theorem jm_of {n : Nat} (h : n < 2147483648) : Int32.toInt64 (nI n) = nJ n := Int32.toInt64_ofNat' (by
  have hm2 : Int32.maxValue.toInt = 2147483647 := rfl
  omega)
theorem jm_ofz {z : Int} (h1 : -2147483648 ≤ z) (h2 : z < 2147483648) : Int32.toInt64 (iz z) = jz z := Int32.toInt64_ofInt (by
  have hm1 : Int32.minValue.toInt = -2147483648 := rfl
  omega) (by
  have hm2 : Int32.maxValue.toInt = 2147483647 := rfl
  omega)
theorem jm_to (n : Nat) : Int64.toInt32 (nJ n) = nI n := Int64.toInt32_ofNat'
theorem jm_toz (z : Int) : Int64.toInt32 (jz z) = iz z := Int64.toInt32_ofInt
theorem jm_cmp {a b : Nat} (h1 : a < 9223372036854775808) (h2 : b < 9223372036854775808) : lg_cmp (nJ a) (nJ b) = iz (if b < a then 1 else if a = b then 0 else -1) := by
  unfold lg_cmp
  simp only [GT.gt, jm_lt h2 h1, jm_eq h1 h2]
  by_cases c1 : b < a
  · rw [if_pos c1, if_pos c1]
    rfl
  · rw [if_neg c1, if_neg c1]
    by_cases c2 : a = b
    · rw [if_pos c2, if_pos c2]
      rfl
    · rw [if_neg c2, if_neg c2]
      rfl
theorem jz_cmp {a b : Int} (h1 : -9223372036854775808 ≤ a) (h2 : a < 9223372036854775808) (h3 : -9223372036854775808 ≤ b) (h4 : b < 9223372036854775808) : lg_cmp (jz a) (jz b) = iz (if b < a then 1 else if a = b then 0 else -1) := by
  unfold lg_cmp
  simp only [GT.gt, jz_lt h3 h4 h1 h2, jz_eq h1 h2 h3 h4]
  by_cases c1 : b < a
  · rw [if_pos c1, if_pos c1]
    rfl
  · rw [if_neg c1, if_neg c1]
    by_cases c2 : a = b
    · rw [if_pos c2, if_pos c2]
      rfl
    · rw [if_neg c2, if_neg c2]
      rfl
theorem ckD_ok {a : Nat} (h0 : 0 < a) (h : a < 2147483648) : ckD (nI a) = some () := by
  unfold ckD
  rw [if_neg]
  show ¬ nI a = nI 0
  rw [sm_eq h (by omega)]
  omega
theorem ckDL_ok {a : Nat} (h0 : 0 < a) (h : a < 9223372036854775808) : ckDL (nJ a) = some () := by
  unfold ckDL
  rw [if_neg]
  show ¬ nJ a = nJ 0
  rw [jm_eq h (by omega)]
  omega
/-! ===== frames of the class: the Nats own their limbs; P are the Nats that may grow ===== -/
abbrev lb (σ : St) (a : Nat) : Nat := sF σ (fid 7 0) a
/-- a Nat a with limbs l of length n -/
def NA (σ : St) (a l n : Nat) : Prop := sK σ a = 8 ∧ sF σ (fid 7 0) a = l ∧ sK σ l = 100 ∧ sN σ l = n ∧ 4 ≤ n ∧ n ≤ 2001
def Nu (σ : St) (a l w x : Nat) : Prop := sI σ (fid 7 1) a = nI w ∧ (∀ k, k < w → sA σ l k = nI (bq x k % 1000000000)) ∧ x < 1000000000 ^ w
def Nv (σ : St) (a l n w x : Nat) : Prop := NA σ a l n ∧ Nu σ a l w x ∧ w ≤ n ∧ (w = 0 ∨ 1000000000 ^ (w - 1) ≤ x)
/-- the Nat a holds x -/
def Nt (σ : St) (a x : Nat) : Prop := ∃ l n w, Nv σ a l n w x
def Own (σ : St) : Prop := (sK σ 0 = 0 ∧ ∀ a, sz σ ≤ a → sK σ a = 0) ∧ ∀ a, sK σ a = 8 → sK σ (lb σ a) = 100 ∧ ∀ b, sK σ b = 8 → lb σ b = lb σ a → b = a
def NL (σ : St) (c : Nat) : Prop := ∀ a, sK σ a = 8 → lb σ a ≠ c
def HP (P : List Nat) (σ : St) : Prop := Own σ ∧ ∀ a ∈ P, ∃ x, Nt σ a x
def Pot (P : List Nat) (σ : St) : Nat := (P.map fun a => sN σ (lb σ a)).sum
/-- reference fields that may change -/
def mutF (f : Nat) : Bool := f == fid 7 0 || f == fid 15 8 || f == fid 15 11 || f == fid 15 12 || f == fid 8 18 || f == fid 1 0
def samC (σ σ' : St) (c : Nat) : Prop := (∀ f, sI σ' f c = sI σ f c) ∧ (∀ f, sF σ' f c = sF σ f c) ∧ (∀ j, sA σ' c j = sA σ c j) ∧ (∀ j, sJ σ' c j = sJ σ c j) ∧ ∀ j, sQ σ' c j = sQ σ c j
/-- only the cells of S and the limbs of its Nats are written; k slots and c cells, but for the growth of P -/
def cF (P S : List Nat) (k c : Nat) (σ σ' : St) : Prop :=
  (HP P σ ∧ HP P σ') ∧ (sz σ ≤ sz σ' ∧ ∀ b, b < sz σ → sK σ' b = sK σ b ∧ sN σ' b = sN σ b ∧ ∀ f, mutF f = false → sF σ' f b = sF σ f b) ∧
  (∀ b, b < sz σ → (NL σ b → b ∉ S) → (∀ a, sK σ a = 8 → lb σ a = b → a ∉ S) → samC σ σ' b) ∧
  (∀ a, sK σ' a = 8 → (a < sz σ ∧ lb σ' a = lb σ a) ∨ (sz σ ≤ lb σ' a ∧ (a < sz σ → sN σ (lb σ a) ≤ sN σ' (lb σ' a)))) ∧
  sw σ' + 2 * Pot P σ ≤ sw σ + 2 * Pot P σ' + k ∧ sc σ' + Pot P σ ≤ sc σ + Pot P σ' + c
theorem Own.lt {σ : St} {a : Nat} (h : Own σ) (ha : sK σ a ≠ 0) : a < sz σ := by
  apply Nat.lt_of_not_le
  intro q
  exact ha (h.1.2 a q)
theorem Own.lb {σ : St} {a : Nat} (h : Own σ) (ha : sK σ a = 8) : lb σ a < sz σ := h.lt (by rw [(h.2 a ha).1]; omega)
theorem samC.rf {σ : St} {c : Nat} : samC σ σ c := ⟨fun _ => rfl, fun _ => rfl, fun _ => rfl, fun _ => rfl, fun _ => rfl⟩
theorem samC.tr {σ σ1 σ2 : St} {c : Nat} (h1 : samC σ σ1 c) (h2 : samC σ1 σ2 c) : samC σ σ2 c :=
  ⟨fun f => (h2.1 f).trans (h1.1 f), fun f => (h2.2.1 f).trans (h1.2.1 f), fun j => (h2.2.2.1 j).trans (h1.2.2.1 j), fun j => (h2.2.2.2.1 j).trans (h1.2.2.2.1 j), fun j => (h2.2.2.2.2 j).trans (h1.2.2.2.2 j)⟩
theorem cF.rf {P S : List Nat} {σ : St} (h : HP P σ) : cF P S 0 0 σ σ :=
  ⟨⟨h, h⟩, ⟨Nat.le_refl _, fun _ _ => ⟨rfl, rfl, fun _ _ => rfl⟩⟩, fun _ _ _ _ => samC.rf, fun a ha => Or.inl ⟨h.1.lt (by rw [ha]; omega), rfl⟩, by omega, by omega⟩
theorem cF.hp {P S : List Nat} {k c : Nat} {σ σ' : St} (h : cF P S k c σ σ') : HP P σ' := h.1.2
theorem cF.mo {P S S' : List Nat} {k c k' c' : Nat} {σ σ' : St} (h : cF P S k c σ σ') (hs : ∀ r ∈ S, r ∈ S') (hk : k ≤ k') (hc : c ≤ c') : cF P S' k' c' σ σ' := by
  obtain ⟨h1, h2, h3, h4, h5, h6⟩ := h
  exact ⟨h1, h2, fun b hb q1 q2 => h3 b hb (fun q q' => q1 q (hs b q')) (fun a ha e q => q2 a ha e (hs a q)), h4, by omega, by omega⟩
theorem cF.nl {P S : List Nat} {k c b : Nat} {σ σ' : St} (h : cF P S k c σ σ') (hb : b < sz σ) (hn : NL σ b) : NL σ' b := by
  intro a ha e
  rcases h.2.2.2.1 a ha with ⟨q1, q2⟩ | ⟨q1, _⟩
  · exact hn a (by rw [← (h.2.1.2 a q1).1]; exact ha) (by rw [← q2]; exact e)
  · omega
theorem Own.nl {σ : St} {a : Nat} (h : Own σ) (ha : sK σ a ≠ 100) : NL σ a := fun b hb e => ha (by rw [← e]; exact (h.2 b hb).1)
theorem cF.tr {P S : List Nat} {k c k' c' : Nat} {σ σ1 σ2 : St} (h1 : cF P S k c σ σ1) (h2 : cF P S k' c' σ1 σ2) : cF P S (k + k') (c + c') σ σ2 := by
  obtain ⟨⟨a1, a2⟩, ⟨a3, a4⟩, a5, a6, a7, a8⟩ := id h1
  obtain ⟨⟨_, b2⟩, ⟨b3, b4⟩, b5, b6, b7, b8⟩ := id h2
  refine ⟨⟨a1, b2⟩, ⟨Nat.le_trans a3 b3, fun b hb => ?_⟩, fun b hb q1 q2 => ?_, fun a ha => ?_, by omega, by omega⟩
  · have e1 := a4 b hb
    have e2 := b4 b (by omega)
    exact ⟨e2.1.trans e1.1, e2.2.1.trans e1.2.1, fun f hf => (e2.2.2 f hf).trans (e1.2.2 f hf)⟩
  · have s1 := a5 b hb q1 q2
    refine s1.tr (b5 b (by omega) (fun q q' => ?_) (fun a ha e q => ?_))
    · by_cases hn : NL σ b
      · exact q1 hn q'
      · obtain ⟨a, ha⟩ := Classical.not_forall.mp hn
        obtain ⟨k8, hl⟩ := Classical.not_imp.mp ha
        have hl := Classical.not_not.mp hl
        have ha2 : a < sz σ := a1.1.lt (by rw [k8]; omega)
        have hS := q2 a k8 hl
        have sa := a5 a ha2 (fun _ => hS) (fun a' k' e' => by
          have := (a1.1.2 a' k').1
          rw [e', k8] at this
          omega)
        exact q a (by rw [(a4 a ha2).1]; exact k8) ((sa.2.1 _).trans hl)
    · rcases a6 a ha with ⟨p1, p2⟩ | ⟨p1, _⟩
      · exact q2 a (by rw [← (a4 a p1).1]; exact ha) (by rw [← p2]; exact e) q
      · omega
  · rcases b6 a ha with ⟨p1, p2⟩ | ⟨p1, p2⟩
    · have ha1 : sK σ1 a = 8 := by rw [← (b4 a p1).1]; exact ha
      rcases a6 a ha1 with ⟨p3, p4⟩ | ⟨p3, p4⟩
      · exact Or.inl ⟨p3, p2.trans p4⟩
      · refine Or.inr ⟨by rw [p2]; exact p3, fun q => ?_⟩
        have := p4 q
        have hl := a2.1.lb ha1
        rw [p2, (b4 _ hl).2.1]
        exact this
    · by_cases hz : a < sz σ
      · have hk1 : sK σ1 a = 8 := by rw [← (b4 a (by omega)).1]; exact ha
        have := p2 (by omega)
        rcases a6 a hk1 with ⟨p3, p4⟩ | ⟨p3, p4⟩
        · refine Or.inr ⟨by omega, fun _ => ?_⟩
          have hk0 : sK σ a = 8 := by rw [← (a4 a hz).1]; exact hk1
          have hl := a1.1.lb hk0
          rw [p4, (a4 _ hl).2.1] at this
          exact this
        · exact Or.inr ⟨by omega, fun _ => Nat.le_trans (p4 hz) this⟩
      · exact Or.inr ⟨by omega, fun q => absurd q hz⟩
theorem NA.lt {P : List Nat} {σ : St} {a l n : Nat} (h : NA σ a l n) (hp : HP P σ) : a < sz σ ∧ l < sz σ := ⟨hp.1.lt (by rw [h.1]; omega), hp.1.lt (by rw [h.2.2.1]; omega)⟩
theorem Nv.keep {P S : List Nat} {k c a l n w x : Nat} {σ σ' : St} (h : Nv σ a l n w x) (hR : cF P S k c σ σ') (ha : a ∉ S) : Nv σ' a l n w x := by
  obtain ⟨⟨k1, k2, k3, k4, k5⟩, ⟨u1, u2, u3⟩, h3, h4⟩ := h
  obtain ⟨⟨a1, a2⟩, ⟨a3, a4⟩, a5, a6, a7, a8⟩ := id hR
  have ha2 : a < sz σ := a1.1.lt (by rw [k1]; omega)
  have hl2 : l < sz σ := a1.1.lt (by rw [k3]; omega)
  have sa := a5 a ha2 (fun _ => ha) (fun a' k' e' => by
    have := (a1.1.2 a' k').1
    rw [e', k1] at this
    omega)
  have sl := a5 l hl2 (fun q => absurd k2 (q a k1)) (fun a' k' e' => by
    have := (a1.1.2 a k1).2 a' k' (e'.trans k2.symm)
    rw [this]
    exact ha)
  refine ⟨⟨by rw [(a4 a ha2).1, k1], by rw [sa.2.1, k2], by rw [(a4 l hl2).1, k3], by rw [(a4 l hl2).2.1, k4], k5⟩, ⟨by rw [sa.1, u1], fun i hi => by rw [sl.2.2.1, u2 i hi], u3⟩, h3, h4⟩
theorem Nt.keep {P S : List Nat} {k c a x : Nat} {σ σ' : St} (h : Nt σ a x) (hR : cF P S k c σ σ') (ha : a ∉ S) : Nt σ' a x := by
  obtain ⟨l, n, w, h⟩ := h
  exact ⟨l, n, w, h.keep hR ha⟩
