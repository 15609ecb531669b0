/-! ===== how many bits of an int are set ===== -/
def pct : Nat → Nat → Nat
  | 0, _ => 0
  | n + 1, x => x % 2 + pct n (x / 2)
theorem pct_add (b : Nat) : ∀ (a x : Nat), pct (a + b) x = pct a x + pct b (x / 2 ^ a)
  | 0, x => by rw [Nat.zero_add, Nat.pow_zero, Nat.div_one]; show _ = 0 + _; omega
  | a + 1, x => by
    rw [show a + 1 + b = a + b + 1 by omega]
    show x % 2 + pct (a + b) (x / 2) = x % 2 + pct a (x / 2) + pct b (x / 2 ^ (a + 1))
    rw [pct_add b a (x / 2), Nat.div_div_eq_div_mul, Nat.pow_succ, Nat.mul_comm 2]
    omega
theorem pct_8 (x : Nat) : pct 8 (x % 256) = pct 8 x := by
  simp only [pct]
  omega
theorem and_sp (k a m r : Nat) (hr : r < 2 ^ k) : a &&& (2 ^ k * m + r) = 2 ^ k * ((a / 2 ^ k) &&& m) + (a % 2 ^ k &&& r) := by
  have hk : 0 < 2 ^ k := Nat.pow_pos (by omega)
  have e1 : (a &&& (2 ^ k * m + r)) / 2 ^ k = (a / 2 ^ k) &&& m := by
    have : (2 ^ k * m + r) / 2 ^ k = m := by rw [Nat.mul_add_div hk, Nat.div_eq_of_lt hr, Nat.add_zero]
    apply Nat.eq_of_testBit_eq
    intro i
    have h2 := congrArg (fun z => z.testBit i) this
    simp only [Nat.testBit_div_two_pow] at h2
    simp only [Nat.testBit_div_two_pow, Nat.testBit_and, h2]
  have e2 : (a &&& (2 ^ k * m + r)) % 2 ^ k = a % 2 ^ k &&& r := by
    have : (2 ^ k * m + r) % 2 ^ k = r := by rw [Nat.mul_add_mod, Nat.mod_eq_of_lt hr]
    apply Nat.eq_of_testBit_eq
    intro i
    have h2 := congrArg (fun z => z.testBit i) this
    simp only [Nat.testBit_mod_two_pow] at h2
    simp only [Nat.testBit_mod_two_pow, Nat.testBit_and, ← h2]
    cases decide (i < k) <;> simp
  have h := Nat.div_add_mod (a &&& (2 ^ k * m + r)) (2 ^ k)
  rw [e1, e2] at h
  exact h.symm
def byT (f : Nat → Nat) : Nat → Nat → Nat
  | 0, _ => 0
  | n + 1, x => 256 * byT f n (x / 256) + f (x % 256)
def byM (r : Nat) : Nat → Nat
  | 0 => 0
  | n + 1 => 256 * byM r n + r
def bf1 (y : Nat) : Nat := y - (y / 2 &&& 85)
def bf2 (y : Nat) : Nat := (bf1 y &&& 51) + (bf1 y / 4 &&& 51)
theorem bf1_t : ∀ y, y < 512 → (y / 2) &&& 85 = (y % 256 / 2) &&& 85 ∧ bf1 (y % 256) + ((y % 256 / 2) &&& 85) = y % 256 := by decide +kernel
theorem bf2_t : ∀ y, y < 256 → ∀ t, t < 4 → (64 * t + bf1 y / 4) &&& 51 = (bf1 y / 4) &&& 51 ∧ bf1 y < 256 := by decide +kernel
theorem bf3_t : ∀ y, y < 256 → ∀ t, t < 5 → (16 * t + bf2 y + bf2 y / 16) &&& 15 = pct 8 y ∧ 16 * t + bf2 y + bf2 y / 16 < 256 ∧ bf2 y % 16 < 5 ∧ pct 8 y ≤ 8 := by decide +kernel
theorem by_s1 : ∀ (n x : Nat), x < 256 ^ n → byT bf1 n x + ((x / 2) &&& byM 85 n) = x
  | 0, x, h => by
    rw [Nat.pow_zero] at h
    have : x = 0 := by omega
    subst this
    rfl
  | n + 1, x, h => by
    show 256 * byT bf1 n (x / 256) + bf1 (x % 256) + ((x / 2) &&& (256 * byM 85 n + 85)) = x
    rw [Nat.pow_succ] at h
    have ih := by_s1 n (x / 256) (by omega)
    have e := and_sp 8 (x / 2) (byM 85 n) 85 (by decide)
    rw [show (2 : Nat) ^ 8 = 256 from rfl] at e
    rw [e, show x / 2 / 256 = x / 256 / 2 by omega]
    have t := bf1_t (x % 512) (by omega)
    rw [show x % 512 % 256 = x % 256 by omega] at t
    rw [show x / 2 % 256 = x % 512 / 2 by omega, t.1]
    omega
theorem by_s2 : ∀ (n x : Nat), (byT bf1 n x &&& byM 51 n) + ((byT bf1 n x / 4) &&& byM 51 n) = byT bf2 n x
  | 0, x => by show (0 &&& 0) + (0 / 4 &&& 0) = 0; decide
  | n + 1, x => by
    show ((256 * byT bf1 n (x / 256) + bf1 (x % 256)) &&& (256 * byM 51 n + 51)) + (((256 * byT bf1 n (x / 256) + bf1 (x % 256)) / 4) &&& (256 * byM 51 n + 51)) = 256 * byT bf2 n (x / 256) + bf2 (x % 256)
    have ih := by_s2 n (x / 256)
    generalize byT bf1 n (x / 256) = v at *
    have t := bf2_t (x % 256) (Nat.mod_lt _ (by omega)) (v % 4) (Nat.mod_lt _ (by omega))
    have e := and_sp 8 (256 * v + bf1 (x % 256)) (byM 51 n) 51 (by decide)
    have e2 := and_sp 8 ((256 * v + bf1 (x % 256)) / 4) (byM 51 n) 51 (by decide)
    rw [show (2 : Nat) ^ 8 = 256 from rfl] at e e2
    rw [e, e2, show (256 * v + bf1 (x % 256)) / 256 = v by omega, show (256 * v + bf1 (x % 256)) % 256 = bf1 (x % 256) by omega, show (256 * v + bf1 (x % 256)) / 4 / 256 = v / 4 by omega, show (256 * v + bf1 (x % 256)) / 4 % 256 = 64 * (v % 4) + bf1 (x % 256) / 4 by omega, t.1, ← ih]
    unfold bf2
    omega
theorem by_m : ∀ (n x : Nat), byT bf2 n x % 16 < 5
  | 0, x => by show 0 % 16 < 5; omega
  | n + 1, x => by
    show (256 * byT bf2 n (x / 256) + bf2 (x % 256)) % 16 < 5
    have t := bf3_t (x % 256) (Nat.mod_lt _ (by omega)) 0 (by omega)
    omega
theorem by_s3 : ∀ (n x : Nat), (byT bf2 n x + byT bf2 n x / 16) &&& byM 15 n = byT (pct 8) n x
  | 0, x => by show (0 + 0 / 16) &&& 0 = 0; decide
  | n + 1, x => by
    show ((256 * byT bf2 n (x / 256) + bf2 (x % 256)) + (256 * byT bf2 n (x / 256) + bf2 (x % 256)) / 16) &&& (256 * byM 15 n + 15) = 256 * byT (pct 8) n (x / 256) + pct 8 (x % 256)
    have ih := by_s3 n (x / 256)
    have hm := by_m n (x / 256)
    generalize byT bf2 n (x / 256) = v at *
    have t := bf3_t (x % 256) (Nat.mod_lt _ (by omega)) (v % 16) hm
    have e := and_sp 8 ((256 * v + bf2 (x % 256)) + (256 * v + bf2 (x % 256)) / 16) (byM 15 n) 15 (by decide)
    rw [show (2 : Nat) ^ 8 = 256 from rfl] at e
    have e3 : (256 * v + bf2 (x % 256)) + (256 * v + bf2 (x % 256)) / 16 = 256 * (v + v / 16) + (16 * (v % 16) + bf2 (x % 256) + bf2 (x % 256) / 16) := by omega
    rw [e, e3]
    have t2 := t.2.1
    have t1 := t.1
    generalize 16 * (v % 16) + bf2 (x % 256) + bf2 (x % 256) / 16 = u at *
    rw [show (256 * (v + v / 16) + u) / 256 = v + v / 16 by omega, show (256 * (v + v / 16) + u) % 256 = u by omega, t1, ih]
theorem by_s4 (x : Nat) : ((byT (pct 8) 4 x + byT (pct 8) 4 x / 256) + (byT (pct 8) 4 x + byT (pct 8) 4 x / 256) / 65536) % 64 = pct 32 x ∧ byT (pct 8) 4 x < 2 ^ 28 := by
  have h0 := (bf3_t (x % 256) (Nat.mod_lt _ (by omega)) 0 (by omega)).2.2.2
  have h1 := (bf3_t (x / 256 % 256) (Nat.mod_lt _ (by omega)) 0 (by omega)).2.2.2
  have h2 := (bf3_t (x / 256 / 256 % 256) (Nat.mod_lt _ (by omega)) 0 (by omega)).2.2.2
  have h3 := (bf3_t (x / 256 / 256 / 256 % 256) (Nat.mod_lt _ (by omega)) 0 (by omega)).2.2.2
  have e : pct 32 x = pct 8 (x % 256) + (pct 8 (x / 256 % 256) + (pct 8 (x / 256 / 256 % 256) + pct 8 (x / 256 / 256 / 256 % 256))) := by
    rw [pct_8, pct_8, pct_8, pct_8]
    show pct (8 + 24) x = _
    rw [pct_add]
    show _ + pct (8 + 16) (x / 256) = _
    rw [pct_add]
    show _ + (_ + pct (8 + 8) (x / 256 / 256)) = _
    rw [pct_add]
  have eT : byT (pct 8) 4 x = 256 * (256 * (256 * (256 * 0 + pct 8 (x / 256 / 256 / 256 % 256)) + pct 8 (x / 256 / 256 % 256)) + pct 8 (x / 256 % 256)) + pct 8 (x % 256) := rfl
  rw [e, eT]
  generalize pct 8 (x % 256) = a at *
  generalize pct 8 (x / 256 % 256) = b at *
  generalize pct 8 (x / 256 / 256 % 256) = c at *
  generalize pct 8 (x / 256 / 256 / 256 % 256) = d at *
  clear e eT
  have q1 : (256 * (256 * (256 * (256 * 0 + d) + c) + b) + a) / 256 = 256 * (256 * d + c) + b := by omega
  rw [q1]
  have q2 : (256 * (256 * (256 * (256 * 0 + d) + c) + b) + a + (256 * (256 * d + c) + b)) / 65536 = 256 * d + (c + d) := by omega
  rw [q2]
  constructor
  · omega
  · omega
theorem sm_andB (a b : Nat) : nI a &&& nI b = nI (a &&& b) := by
  apply i32_ext
  show BitVec.ofNat 32 a &&& BitVec.ofNat 32 b = BitVec.ofNat 32 (a &&& b)
  apply BitVec.eq_of_getLsbD_eq
  intro i hi
  rw [BitVec.getLsbD_and, BitVec.getLsbD_ofNat, BitVec.getLsbD_ofNat, BitVec.getLsbD_ofNat, Nat.testBit_and]
  simp [hi]
theorem sm_ush {a k : Nat} (ha : a < 2 ^ 32) (hk : k = 1 ∨ k = 2 ∨ k = 4 ∨ k = 8 ∨ k = 16) : (Int32.toUInt32 (nI a) >>> (Int32.toUInt32 (nI k) &&& Int32.toUInt32 (nI 31))).toInt32 = nI (a / 2 ^ k) := by
  apply i32_ext
  have e : ((Int32.toUInt32 (nI a) >>> (Int32.toUInt32 (nI k) &&& Int32.toUInt32 (nI 31))).toInt32).toBitVec = (nI a).toBitVec >>> k := by
    rcases hk with rfl | rfl | rfl | rfl | rfl <;> rfl
  rw [e, nI_bv, nI_bv]
  apply BitVec.eq_of_toNat_eq
  rw [BitVec.toNat_ushiftRight, BitVec.toNat_ofNat, BitVec.toNat_ofNat, Nat.shiftRight_eq_div_pow, Nat.mod_eq_of_lt ha, Nat.mod_eq_of_lt (Nat.lt_of_le_of_lt (Nat.div_le_self _ _) ha)]
theorem cn_bitCount {x : Nat} {σ : St} (hx : x < 2 ^ 32) : fJ6_bitCount_0f7a4 σ (nI x) = some (σ, nI (pct 32 x)) := by
  have e1 := by_s1 4 x (by omega)
  have e2 := by_s2 4 x
  have e3 := by_s3 4 x
  have e4 := by_s4 x
  have m1 : byM 85 4 = 1431655765 := rfl
  have m2 : byM 51 4 = 858993459 := rfl
  have m3 : byM 15 4 = 252645135 := rfl
  rw [m1] at e1
  rw [m2] at e2
  rw [m3] at e3
  have b1 : byT bf1 4 x < 2 ^ 32 := by omega
  have b2 : byT bf2 4 x < 2 ^ 32 := by
    have t : ∀ y, y < 256 → bf2 y < 256 := fun y hy => by have := (bf3_t y hy 0 (by omega)).2.1; omega
    have t0 := t (x % 256) (by omega)
    have t1 := t (x / 256 % 256) (by omega)
    have t2 := t (x / 256 / 256 % 256) (by omega)
    have t3 := t (x / 256 / 256 / 256 % 256) (by omega)
    show 256 * (256 * (256 * (256 * 0 + bf2 (x / 256 / 256 / 256 % 256)) + bf2 (x / 256 / 256 % 256)) + bf2 (x / 256 % 256)) + bf2 (x % 256) < _
    omega
  apply hx_eq
  rw [n_fJ6_bitCount_0f7a4, sm_ush hx (by omega), sm_andB, show x / 2 ^ 1 = x / 2 from rfl, sm_sub (by omega), show x - (x / 2 &&& 1431655765) = byT bf1 4 x by omega]
  refine hx_nm ?_
  rw [sm_ush b1 (by omega), sm_andB, sm_andB, show byT bf1 4 x / 2 ^ 2 = byT bf1 4 x / 4 from rfl, sm_add, e2]
  refine hx_nm ?_
  rw [sm_ush b2 (by omega), sm_add, sm_andB, show byT bf2 4 x / 2 ^ 4 = byT bf2 4 x / 16 from rfl, e3]
  refine hx_nm ?_
  have b3 := e4.2
  rw [sm_ush (by omega) (by omega), sm_add, show byT (pct 8) 4 x / 2 ^ 8 = byT (pct 8) 4 x / 256 from rfl]
  refine hx_nm ?_
  rw [sm_ush (by omega) (by omega), sm_add]
  refine hx_nm ?_
  rw [sm_andB, show (63 : Nat) = 2 ^ 6 - 1 from rfl, Nat.and_two_pow_sub_one_eq_mod]
  refine Hx.ret ⟨rfl, congrArg nI ?_⟩
  exact e4.1
theorem pct_fil {α : Type} (p : α → Bool) : ∀ (n x : Nat) (l : List α), l.length ≤ n → (∀ j, j < n → (x.testBit j = true ↔ ∃ y, l[j]? = some y ∧ p y = true)) → pct n x = (l.filter p).length
  | 0, x, l, hl, h => by
    have : l = [] := List.length_eq_zero_iff.mp (by omega)
    subst this
    rfl
  | n + 1, x, l, hl, h => by
    show x % 2 + pct n (x / 2) = _
    have h0 := h 0 (by omega)
    rw [Nat.testBit_zero, decide_eq_true_eq] at h0
    have hs : ∀ j, j < n → ((x / 2).testBit j = true ↔ ∃ y, l.tail[j]? = some y ∧ p y = true) := fun j hj => by
      have := h (j + 1) (by omega)
      rw [Nat.testBit_succ] at this
      rw [List.getElem?_tail]
      exact this
    rw [pct_fil p n (x / 2) l.tail (by rw [List.length_tail]; omega) hs]
    cases l with
    | nil =>
      have : ¬ x % 2 = 1 := fun q => by
        obtain ⟨y, hy, _⟩ := h0.mp q
        cases hy
      show x % 2 + 0 = 0
      omega
    | cons a l =>
      rw [List.filter_cons]
      by_cases c : p a = true
      · have : x % 2 = 1 := h0.mpr ⟨a, rfl, c⟩
        rw [if_pos c, List.length_cons]
        show x % 2 + (l.filter p).length = _
        omega
      · have : ¬ x % 2 = 1 := fun q => by
          obtain ⟨y, hy, hy2⟩ := h0.mp q
          have hy : some a = some y := hy
          cases hy
          exact c hy2
        rw [if_neg c]
        show x % 2 + (l.filter p).length = _
        omega
