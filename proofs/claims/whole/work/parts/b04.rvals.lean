/-! ===== the reference: values kept ===== -/
theorem rfM.w3 {m i : Nat} {F A : List Nat} {V : Nat → Prop} {σ : St} {v : Int32} (hi : V i) : rfM m F A V σ (wA σ (m + 3) i v) :=
  ⟨rfE.wA (by omega), fun _ _ => rfl, fun k _ h3 _ => sA_wA_b (by omega), fun q hq => ⟨sA_wA_j (fun e => hq (e ▸ hi)), fun _ _ => by rw [sA_wA_b (by omega)]⟩⟩
theorem rfM.w4 {m i o : Nat} {F A : List Nat} {V : Nat → Prop} {σ : St} {v : Int32} (hi : V i) (ho : o < 16) : rfM m F A V σ (wA σ (m + 4) (16 * i + o) v) :=
  ⟨rfE.wA (by omega), fun _ _ => rfl, fun k _ _ h4 => sA_wA_b (by omega), fun q hq => ⟨by rw [sA_wA_b (by omega)], fun k hk => sA_wA_j (by
    intro e
    have : q = i := by omega
    exact hq (this ▸ hi))⟩⟩
theorem rf_copiesValue_loop {m t f : Nat} {g : Nat → Int32} (ht : t < 12600) (hf : f < 12600) : ∀ (n : Nat) (σ : St) (k : Nat), MS σ m → 16 - k < n → k ≤ 16 → (∀ j, j < 16 → sA σ (m + 4) (16 * f + j) = g j) → (∀ j, j < k → sA σ (m + 4) (16 * t + j) = g j) →
    Hx (fX12_copiesValue_14 n σ m (nI t) (nI f) (nI k)) fun σ' _ => rfM m [] [] (fun i => i = t) σ σ' ∧ sA σ' (m + 3) = sA σ (m + 3) ∧ ∀ j, j < 16 → sA σ' (m + 4) (16 * t + j) = g j := by
  intro n
  induction n with
  | zero => intro σ k _ h; omega
  | succ n ih =>
    intro σ k hm hn hk h1 h2
    rw [n_fX12_copiesValue_14]
    refine Hx.ce (sm_le (by omega) (by omega)) (fun hc => ?_) (fun hc => ?_)
    · exact Hx.ret ⟨rfM.rf, rfl, fun j hj => h2 j (by omega)⟩
    · have g1 := h1 k (by omega)
      have w : rfM m [] [] (fun i => i = t) σ (wA σ (m + 4) (16 * t + k) (g k)) := rfM.w4 rfl (by omega)
      rw [rf_part hm]
      refine hx_bs (hx_bs ?_)
      rw [sm_mul, sm_add, ld_part hm (by omega), g1]
      refine hx_bs ?_
      rw [sm_mul, sm_add, st_part hm (by omega)]
      refine hx_bs (hx_nm ?_)
      rw [sm_add]
      refine (ih (wA σ (m + 4) (16 * t + k) (g k)) (k + 1) hm (by omega) (by omega) (fun j hj => ?_) (fun j hj => ?_)).mo ?_
      · by_cases e : 16 * f + j = 16 * t + k
        · rw [e, sA_wA_eq]
          congr 1
          omega
        · rw [sA_wA_j e]; exact h1 j hj
      · by_cases e : j = k
        · subst e; exact sA_wA_eq
        · rw [sA_wA_j (by omega)]; exact h2 j (by omega)
      · rintro σ' v ⟨q1, q2, q3⟩
        exact ⟨w.tr q1, by rw [q2, sA_wA_b (by omega)], q3⟩
