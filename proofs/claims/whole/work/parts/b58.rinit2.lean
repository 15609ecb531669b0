/-! ===== the reference is made: what holds then ===== -/
theorem rf_keepsWhole0 {m vm : Nat} {σ : St} (hm : MS σ m) (h5 : Fi σ m 5 (nI vm)) (hv : vm < 12600) : Hx (fX12_keepsWhole σ m (nI 0)) (fun σ' v => v = nI vm ∧ rfM m [5] [1, 2] (fun j => j = vm) σ σ' ∧ Fi σ' m 5 (nI (vm + 1)) ∧ Vl σ' m vm (0, 0, 1)) := by
  have w : rfM m [5] [1, 2] (fun j => j = vm) σ (wI σ (fid 16 5) m (nI (vm + 1))) := rfM.wI (by simp)
  have F1 : Fi (wI σ (fid 16 5) m (nI (vm + 1))) m 5 (nI (vm + 1)) := fi_wI
  rw [n_fX12_keepsWhole, rf_ck hm]
  refine hx_bs ?_
  rw [rf_newValue hm h5 hv]
  refine hx_cs ?_
  generalize wI σ (fid 16 5) m (nI (vm + 1)) = σ1 at w F1 ⊢
  have m1 := w.ms hm
  rw [rf_ck m1]
  refine hx_bs ?_
  obtain ⟨σ2, e2, r2, v2⟩ := rf_puts (r := 6) (v := 0) m1 (by omega) (by omega)
  rw [e2]
  refine hx_cs ?_
  have m2 := r2.ms m1
  rw [rf_ck m2]
  refine hx_bs ?_
  obtain ⟨σ3, e3, r3, v3⟩ := rf_puts (r := 7) (v := 1) m2 (by omega) (by omega)
  rw [e3]
  refine hx_cs ?_
  have m3 := r3.ms m2
  rw [rf_ck m3]
  refine hx_bs ?_
  obtain ⟨σ4, e4, r4, v4⟩ := rf_lays (i := vm) (u := 1) (s := 1) m3 hv (by omega) (by omega) (by omega) (by omega) (fun z => absurd rfl z) (v2.keep r3 (by decide)) v3
  have eq : qmk 1 0 1 = (0, 0, 1) := by rw [qmk_o]; rfl
  rw [eq] at e4 r4 v4
  have sm : qsm (0, 0, 1) := ⟨by show 0 < dig30; unfold dig30; omega, by show 1 < dig30; unfold dig30; omega⟩
  rw [if_pos sm, show iz 1 = nI 1 from rfl] at e4
  rw [e4]
  refine hx_cs ?_
  refine Hx.ce (sm_eq (show 1 < 2147483648 by omega) (by omega)) (fun z => absurd z (by omega)) (fun _ => ?_)
  have R13 : rfM m [] [1, 2] nV σ1 σ3 := r2.M.tr r3.M
  have R4 : rfM m [] [1, 2] (fun j => j = vm) σ3 σ4 := r4.M.mo ⟨by decide, by decide⟩ (fun j z => z.1)
  exact Hx.ret ⟨rfl, w.tr ((R13.mo ⟨by decide, by decide⟩ (fun _ z => z.elim)).tr (R4.mo ⟨by decide, by decide⟩ (fun _ z => z))), (F1.keep R13 (by decide)).keep R4 (by decide), v4 sm⟩
theorem n2_fX12_init_425 (n : Nat) (σ : St) (x0 : Nat) (x1 : Int32) : fX12_init_425 (n + 1) σ x0 x1 = (if (nI 10) ≤ x1 then (some (σ, ())) else (Option.bind (gF σ 16 74 x0) fun v2 => Option.bind (gI σ 16 6 x0) fun v3 => Option.bind (stI σ v2 x1 v3) fun σ4 => nm (x1 + (nI 1)) fun v5 => fX12_init_425 n σ4 x0 v5)) := rfl
theorem rf_init_425 {m vi : Nat} {σ0 : St} : ∀ (n k : Nat) (σ : St), 10 - k < n → k ≤ 10 → MS σ m → Fi σ m 6 (nI vi) → rfM m [] [41] nV σ0 σ → (∀ i, i < k → sA σ (m + 41) i = nI vi) → Hx (fX12_init_425 n σ m (nI k)) (fun σ' _ => rfM m [] [41] nV σ0 σ' ∧ ∀ i, i < 10 → sA σ' (m + 41) i = nI vi) := by
  intro n
  induction n with
  | zero => intro k σ h; omega
  | succ n ih =>
    intro k σ hn hk hm h6 hR hS
    rw [n2_fX12_init_425]
    refine Hx.ce (sm_le (by omega) (by omega)) (fun c => ?_) (fun c => ?_)
    · exact Hx.ret ⟨hR, fun i hi => hS i (by omega)⟩
    · rw [rf_slot hm]
      refine hx_bs ?_
      rw [fi_g hm h6]
      refine hx_bs ?_
      rw [st_slot hm (by omega)]
      refine hx_bs (hx_nm ?_)
      have w : rfM m [] [41] nV σ (wA σ (m + 41) k (nI vi)) := rfM.wA (by simp) (by omega)
      rw [sm_add]
      refine ih (k + 1) _ (by omega) (by omega) (w.ms hm) (h6.keep w (by decide)) (hR.tr w) (fun i hi => ?_)
      by_cases c2 : i = k
      · subst c2; exact sA_wA_eq
      · rw [sA_wA_j c2]; exact hS i (by omega)
/-- the state at first -/
def rst0 : Rst := ([], -1, (-1, -1, -1, []), (0, 0, 1), [(0, 0, 1), (0, 0, 1), (0, 0, 1), (0, 0, 1), (0, 0, 1), (0, 0, 1), (0, 0, 1), (0, 0, 1), (0, 0, 1), (0, 0, 1)], [], [], ([], [], [[], [], []]), [], [])
theorem ri_init {m : Nat} {σ0 σ : St} (h : Stg m σ0 [] [] σ) (hm0 : 0 < m) : Hx (fX12_init σ m) (fun σ' _ => RI σ' m (601, 0, 0) rst0 ∧ ∃ σ1, Stg m σ0 RfL [45, 44, 43, 9] σ1 ∧ rfE m σ1 σ') := by
  refine rf_init_st h hm0 (fun σ1 h1 => ?_)
  have m1 := h1.ms
  have z1 := fun {a : Nat} (ha : 1 ≤ a ∧ a ≤ 44) (i : Nat) => h1.z ha i
  have fI : ∀ f, Fi σ1 m f (if f ∈ [45, 44, 43, 9] then iz (-1) else nI 0) := fun f => h1.2.2.2.2.1 f
  have q0 : ∀ f, f ∉ [45, 44, 43, 9] → Fi σ1 m f (nI 0) := fun f hf => by
    have := fI f
    rw [if_neg hf] at this
    exact this
  have q1 : ∀ f, f ∈ [45, 44, 43, 9] → Fi σ1 m f (iz (-1)) := fun f hf => by
    have := fI f
    rw [if_pos hf] at this
    exact this
  rw [rf_pI m1]
  refine hx_bs ?_
  have w2 : rfM m [5] [] nV σ1 (wI σ1 (fid 16 5) m (nI 600)) := rfM.wI (by simp)
  have f2 : Fi (wI σ1 (fid 16 5) m (nI 600)) m 5 (nI 600) := fi_wI
  generalize wI σ1 (fid 16 5) m (nI 600) = σ2 at w2 f2 ⊢
  have m2 := w2.ms m1
  rw [rf_ck m2]
  refine hx_bs ?_
  refine Hx.bd (rf_keepsWhole0 m2 f2 (by omega)) (fun σ3 v g => ?_)
  obtain ⟨rfl, r3, f3, v3⟩ := g
  have m3 := r3.ms m2
  rw [rf_pI m3]
  refine hx_bs ?_
  have w4 : rfM m [6] [] nV σ3 (wI σ3 (fid 16 6) m (nI 600)) := rfM.wI (by simp)
  have f4 : Fi (wI σ3 (fid 16 6) m (nI 600)) m 6 (nI 600) := fi_wI
  generalize wI σ3 (fid 16 6) m (nI 600) = σ4 at w4 f4 ⊢
  have m4 := w4.ms m3
  rw [fi_g m4 f4]
  refine hx_bs ?_
  rw [rf_pI m4]
  refine hx_bs ?_
  have w5 : rfM m [57] [] nV σ4 (wI σ4 (fid 16 57) m (nI 600)) := rfM.wI (by simp)
  have f5 : Fi (wI σ4 (fid 16 57) m (nI 600)) m 57 (nI 600) := fi_wI
  generalize wI σ4 (fid 16 57) m (nI 600) = σ5 at w5 f5 ⊢
  have m5 := w5.ms m4
  refine (rf_init_425 FU 0 σ5 (by unfold FU; omega) (by omega) m5 (f4.keep w5 (by decide)) rfM.rf (fun i hi => by omega)).mo (fun σ6 _ g => ?_)
  obtain ⟨r6, s6⟩ := g
  have R25 : rfM m [5, 6, 57] [1, 2] (fun j => j = 600) σ1 σ5 := (w2.mo ⟨by decide, by decide⟩ (fun _ z => z.elim)).tr ((r3.mo ⟨by decide, by decide⟩ (fun _ z => z)).tr ((w4.mo ⟨by decide, by decide⟩ (fun _ z => z.elim)).tr (w5.mo ⟨by decide, by decide⟩ (fun _ z => z.elim))))
  have R : rfM m [5, 6, 57] [1, 2, 41] (fun j => j = 600) σ1 σ6 := (R25.mo ⟨by decide, by decide⟩ (fun _ z => z)).tr (r6.mo ⟨by decide, by decide⟩ (fun _ z => z.elim))
  have m6 := r6.ms m5
  have vV : Vl σ6 m 600 (0, 0, 1) := ((v3.keepM w4 (fun z => z)).keepM w5 (fun z => z)).keepM r6 (fun z => z)
  have hK : Kv σ6 m 601 600 (0, 0, 1) := ⟨by omega, vV⟩
  have g0 : ∀ f, f ∉ [45, 44, 43, 9] → f ∉ [5, 6, 57] → Fi σ6 m f (nI 0) := fun f a b => (q0 f a).keep R b
  have g1 : ∀ f, f ∈ [45, 44, 43, 9] → f ∉ [5, 6, 57] → Fi σ6 m f (iz (-1)) := fun f a b => (q1 f a).keep R b
  refine ⟨⟨⟨m6, RTx.nil (g0 8 (by decide) (by decide)), g1 9 (by decide) (by decide), g1 43 (by decide) (by decide), g1 44 (by decide) (by decide), g1 45 (by decide) (by decide), g0 46 (by decide) (by decide), Nat.zero_le _, fun i z h => (by cases h)⟩, ⟨⟨600, f5.keep r6 (by decide), hK⟩, ⟨rfl, fun i q hi => ?_⟩, ⟨g0 78 (by decide) (by decide), Nat.zero_le _, fun i c h => (by cases h)⟩, ⟨g0 56 (by decide) (by decide), Nat.zero_le _, fun i c h => (by cases h)⟩⟩, ⟨curR σ6 m, [], [], ⟨Rda.rf, ⟨g0 72 (by decide) (by decide), g0 73 (by decide) (by decide)⟩, Nat.zero_le _, fun k q h => (by cases h), fun k q h => (by cases h)⟩, ⟨⟨g0 40 (by decide) (by decide), Nat.zero_le _, g0 41 (by decide) (by decide), Nat.zero_le _⟩, fun k e h => (by cases h), fun k e h => (by cases h), rfl, fun r vs hr => ?_⟩, All2.nil, All2.nil⟩, ⟨?_, g0 21 (by decide) (by decide), g0 25 (by decide) (by decide)⟩, by show 600 ≤ 601; omega, by show 601 ≤ 12600; omega, by show 0 ≤ 12000; omega, by show 0 ≤ 600; omega⟩, σ1, h1, R.1⟩
  · have hi10 := (List.getElem?_eq_some_iff.mp hi).1
    have hi10 : i < 10 := hi10
    have : q = (0, 0, 1) := by
      have hm := List.mem_of_getElem? hi
      have hm : q ∈ [((0 : Int), 0, 1), (0, 0, 1), (0, 0, 1), (0, 0, 1), (0, 0, 1), (0, 0, 1), (0, 0, 1), (0, 0, 1), (0, 0, 1), (0, 0, 1)] := hm
      simpa using hm
    subst this
    exact ⟨600, s6 i hi10, hK⟩
  · have hr3 := (List.getElem?_eq_some_iff.mp hr).1
    have hr3 : r < 3 := hr3
    have hv : vs = [] := by
      have hm := List.mem_of_getElem? hr
      have hm : vs ∈ [([] : List Qv), [], []] := hm
      simpa using hm
    subst hv
    refine ⟨?_, Nat.zero_le _, fun i q h => (by cases h)⟩
    show sA σ6 (m + 37) r = nI 0
    rw [R.ar 37 ⟨by decide, by omega, by omega⟩]
    exact z1 (by omega) r
  · exact (((f3.keep w4 (by decide)).keep w5 (by decide)).keep r6 (by decide))
