/-! ===== the class' calls: what the latest refusal was ===== -/
theorem cx_refusal {x : Nat} {a b c : Int} {rg : List Int} {σ : St} (hx : XS σ x) (hR : KRef σ x a b c rg) : fX11_failed σ x = some (σ, iz c) ∧ fX11_ring σ x = some (σ, nI rg.length) ∧ fX11_refused σ x (nI 0) = some (σ, .inr (iz a)) ∧ fX11_refused σ x (nI 1) = some (σ, .inr (iz b)) := by
  obtain ⟨h3, h4, h5, h7, _, _⟩ := hR
  have k0 : sK σ x = 15 + 1 := hx.kd 0 16 (by decide)
  refine ⟨?_, ?_, ?_, ?_⟩
  · apply hx_eq
    rw [n_fX11_failed, (sm_gI k0).trans (congrArg some h5)]
    exact hx_bs (Hx.ret ⟨rfl, rfl⟩)
  · apply hx_eq
    rw [n_fX11_ring, (sm_gI k0).trans (congrArg some h7)]
    exact hx_bs (Hx.ret ⟨rfl, rfl⟩)
  · apply hx_eq
    rw [n_fX11_refused]
    refine Hx.cs (fun _ => ?_) (fun c => absurd rfl c)
    rw [n_fX11_refused_17]
    refine Hx.cs (fun _ => ?_) (fun c => absurd rfl c)
    rw [(sm_gI k0).trans (congrArg some h3)]
    exact hx_bs (Hx.ret ⟨rfl, rfl⟩)
  · apply hx_eq
    rw [n_fX11_refused]
    refine Hx.ce (sm_eq (by omega) (by omega)) (fun c => absurd c (by omega)) (fun _ => ?_)
    refine Hx.cs (fun _ => ?_) (fun c => absurd rfl c)
    rw [n_fX11_refused_17]
    refine Hx.ce (sm_eq (by omega) (by omega)) (fun c => absurd c (by omega)) (fun _ => ?_)
    rw [(sm_gI k0).trans (congrArg some h4)]
    exact hx_bs (Hx.ret ⟨rfl, rfl⟩)
theorem cx_refusedN {x : Nat} {v : Int32} {σ : St} (h0 : v ≠ nI 0) (h1 : v ≠ nI 1) : fX11_refused σ x v = some (th σ, .inl "java/lang/IllegalArgumentException") := by
  apply hx_eq
  rw [n_fX11_refused, if_neg h0, if_neg h1]
  exact Hx.ret ⟨rfl, rfl⟩
theorem cx_errorPosition {x : Nat} {e : Int32} {σ : St} (hx : XS σ x) (h : sI σ (fid 15 2) x = e) : fX11_errorPosition σ x = some (σ, e) := by
  have k0 : sK σ x = 15 + 1 := hx.kd 0 16 (by decide)
  apply hx_eq
  rw [n_fX11_errorPosition, (sm_gI k0).trans (congrArg some h)]
  exact hx_bs (Hx.ret ⟨rfl, rfl⟩)
