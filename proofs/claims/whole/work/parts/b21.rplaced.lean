/-! ===== the reference puts what is told in its place ===== -/
def plR {α : Type} (l : List α) (o : Option Nat) (x : α) : List α := match o with
  | some k => l.set k x
  | none => l ++ [x]
def plp {α : Type} (l : List α) (o : Option Nat) : Nat := match o with
  | some k => k
  | none => l.length
theorem plR_get {α : Type} {l : List α} {o : Option Nat} {x : α} (ho : ∀ k, o = some k → k < l.length) (t : Nat) : (plR l o x)[t]? = if t = plp l o then some x else l[t]? := by
  cases o with
  | some k =>
    have hk := ho k rfl
    show (l.set k x)[t]? = if t = k then some x else l[t]?
    rw [List.getElem?_set]
    by_cases c : k = t
    · rw [if_pos c, if_pos hk, if_pos c.symm]
    · rw [if_neg c, if_neg (fun q => c q.symm)]
  | none =>
    show (l ++ [x])[t]? = if t = l.length then some x else l[t]?
    by_cases c : t < l.length
    · rw [List.getElem?_append_left c, if_neg (by omega)]
    · rw [List.getElem?_append_right (by omega)]
      by_cases c2 : t = l.length
      · rw [if_pos c2, c2, Nat.sub_self]; rfl
      · rw [if_neg c2, List.getElem?_eq_none (by rw [List.length_singleton]; omega), List.getElem?_eq_none (by omega)]
theorem plR_len {α : Type} {l : List α} {o : Option Nat} {x : α} : (plR l o x).length = if o = none then l.length + 1 else l.length := by
  cases o with
  | some k => show (l.set k x).length = _; rw [List.length_set, if_neg (fun q => by cases q)]
  | none => show (l ++ [x]).length = _; rw [List.length_append, List.length_singleton, if_pos rfl]
/-- the two cells of place p -/
def Pcd (m p w d : Nat) (F : List Nat) (σ σ' : St) : Prop := rfM m F [18, 19] nV σ σ' ∧ (sA σ' (m + 18) p = nI w ∧ sA σ' (m + 19) p = nI d) ∧ ∀ t, t ≠ p → sA σ' (m + 18) t = sA σ (m + 18) t ∧ sA σ' (m + 19) t = sA σ (m + 19) t
theorem rf_76 {m p w d : Nat} {σ0 σ : St} {F : List Nat} (hm : MS σ m) (h33 : Fi σ m 33 (nI w)) (hp : p < 30) (hR : rfM m F [] nV σ0 σ) : Hx (fX12_placed_76 σ m (nI d) (nI p)) (fun σ' v => v = nI p ∧ Pcd m p w d F σ0 σ' ∧ rfM m [] [18, 19] nV σ σ') := by
  rw [n_fX12_placed_76, rf_word hm]
  refine hx_bs ?_
  rw [fi_g hm h33]
  refine hx_bs ?_
  obtain ⟨σa, ea⟩ : ∃ s, s = wA σ (m + 18) p (nI w) := ⟨_, rfl⟩
  have wa : rfM m [] [18, 19] nV σ σa := by rw [ea]; exact rfM.wA (by simp) (by omega)
  have hma := wa.ms hm
  rw [st_word hm hp, ← ea]
  refine hx_bs ?_
  rw [rf_def hma]
  refine hx_bs ?_
  rw [st_def hma hp]
  have wb : rfM m [] [18, 19] nV σa (wA σa (m + 19) p (nI d)) := rfM.wA (by simp) (by omega)
  have e18 : sA σ (m + 18) = sA σ0 (m + 18) := hR.ar 18 ⟨by simp, by omega, by omega⟩
  have e19 : sA σ (m + 19) = sA σ0 (m + 19) := hR.ar 19 ⟨by simp, by omega, by omega⟩
  refine hx_bs (Hx.ret ⟨rfl, ⟨?_, ⟨?_, sA_wA_eq⟩, fun t ht => ⟨?_, ?_⟩⟩, wa.tr wb⟩)
  · exact (hR.mo ⟨fun _ q => q, by simp⟩ (fun _ q => q)).tr ((wa.tr wb).mo ⟨by simp, fun _ q => q⟩ (fun _ q => q))
  · rw [sA_wA_b (by omega), ea, sA_wA_eq]
  · rw [sA_wA_b (by omega), ea, sA_wA_j ht, e18]
  · rw [sA_wA_j ht, ea, sA_wA_b (by omega), e19]
theorem rf_placedN {m vm w d : Nat} {ns : List NE} {fs : List FE} {σ : St} (hm : MS σ m) (hB : Rbk σ m vm ns fs) (h32 : Fi σ m 32 (nI 1)) (h33 : Fi σ m 33 (nI w)) (hw : w < 2147483648) (hlen : fix (ns.map (·.1)) w = none → ns.length < 20) :
    Hx (fX12_placed σ m (nI d)) (fun σ' v => v = nI (plp ns (fix (ns.map (·.1)) w)) ∧ Pcd m (plp ns (fix (ns.map (·.1)) w)) w d [40] σ σ' ∧ Fi σ' m 40 (nI (if fix (ns.map (·.1)) w = none then ns.length + 1 else ns.length))) := by
  obtain ⟨b40, b20, b41, b10⟩ := hB.1
  have ht := rf_thingN hm hw hB
  rw [n_fX12_placed, fi_g hm h33]
  refine hx_bs ?_
  rw [fi_g hm h32]
  refine hx_bs (Hx.ce (sm_eq (show 1 < 2147483648 by omega) (by omega)) (fun q => absurd q (by omega)) (fun _ => ?_))
  rw [n_fX12_placed_18, rf_ck hm]
  refine hx_bs ?_
  rw [ht]
  cases hf : fix (ns.map (·.1)) w with
  | none =>
    have hl := hlen hf
    refine hx_cs (Hx.ce rfl (fun _ => ?_) (fun q => absurd rfl q))
    rw [fi_g hm h32]
    refine hx_bs (Hx.ce rfl (fun _ => ?_) (fun q => absurd rfl q))
    rw [fi_g hm b40]
    refine hx_bs (hx_bs ?_)
    rw [sm_add, rf_pI hm]
    refine hx_bs ?_
    have r1 : rfM m [40] [] nV σ (wI σ (fid 16 40) m (nI (ns.length + 1))) := rfM.wI (by simp)
    refine (rf_76 (σ0 := σ) (r1.ms hm) (fi_wn h33 (by decide)) (show ns.length < 30 by omega) r1).mo (fun σ' v g => ?_)
    exact ⟨g.1, g.2.1, Fi.keep fi_wI g.2.2 (by simp)⟩
  | some k =>
    have hk := fix_lt hf
    rw [List.length_map] at hk
    have e : iz (thn (some k) 0) = nI k := by
      show iz ((0 + k : Nat) : Int) = nI k
      rw [Nat.zero_add]
      exact (sm_iz k).symm
    rw [e]
    refine hx_cs (Hx.ce (nIm (by omega)) (fun q => q.elim) (fun _ => ?_))
    rw [n_fX12_placed_53]
    refine Hx.ce (nIm (by omega)) (fun q => q.elim) (fun _ => ?_)
    refine (rf_76 (σ0 := σ) (F := [40]) hm h33 (show k < 30 by omega) rfM.rf).mo (fun σ' v g => ?_)
    exact ⟨g.1, g.2.1, b40.keep g.2.2 (by simp)⟩
theorem rf_placedF {m vm w d : Nat} {ns : List NE} {fs : List FE} {σ : St} (hm : MS σ m) (hB : Rbk σ m vm ns fs) (h32 : Fi σ m 32 (nI 2)) (h33 : Fi σ m 33 (nI w)) (hw : w < 2147483648) (hlen : fix (fs.map (·.1)) w = none → fs.length < 10) :
    Hx (fX12_placed σ m (nI d)) (fun σ' v => v = nI (20 + plp fs (fix (fs.map (·.1)) w)) ∧ Pcd m (20 + plp fs (fix (fs.map (·.1)) w)) w d [41] σ σ' ∧ Fi σ' m 41 (nI (if fix (fs.map (·.1)) w = none then fs.length + 1 else fs.length))) := by
  obtain ⟨b40, b20, b41, b10⟩ := hB.1
  have ht := rf_thingF hm hw hB
  rw [n_fX12_placed, fi_g hm h33]
  refine hx_bs ?_
  rw [fi_g hm h32]
  refine hx_bs (Hx.ce rfl (fun _ => ?_) (fun q => absurd rfl q))
  rw [n_fX12_placed_18, rf_ck hm]
  refine hx_bs ?_
  rw [ht]
  cases hf : fix (fs.map (·.1)) w with
  | none =>
    have hl := hlen hf
    refine hx_cs (Hx.ce rfl (fun _ => ?_) (fun q => absurd rfl q))
    rw [fi_g hm h32]
    refine hx_bs (Hx.ce (sm_eq (show 2 < 2147483648 by omega) (by omega)) (fun q => absurd q (by omega)) (fun _ => ?_))
    rw [n_fX12_placed_53]
    refine Hx.ce rfl (fun _ => ?_) (fun q => absurd rfl q)
    rw [fi_g hm b41]
    refine hx_bs (hx_nm (hx_bs ?_))
    rw [sm_add, sm_add, rf_pI hm]
    refine hx_bs ?_
    have r1 : rfM m [41] [] nV σ (wI σ (fid 16 41) m (nI (fs.length + 1))) := rfM.wI (by simp)
    refine (rf_76 (σ0 := σ) (r1.ms hm) (fi_wn h33 (by decide)) (show 20 + fs.length < 30 by omega) r1).mo (fun σ' v g => ?_)
    exact ⟨g.1, g.2.1, Fi.keep fi_wI g.2.2 (by simp)⟩
  | some k =>
    have hk := fix_lt hf
    rw [List.length_map] at hk
    have e : iz (thn (some k) 20) = nI (20 + k) := by
      show iz ((20 + k : Nat) : Int) = nI (20 + k)
      exact (sm_iz (20 + k)).symm
    rw [e]
    refine hx_cs (Hx.ce (nIm (by omega)) (fun q => q.elim) (fun _ => ?_))
    rw [n_fX12_placed_53]
    refine Hx.ce (nIm (by omega)) (fun q => q.elim) (fun _ => ?_)
    refine (rf_76 (σ0 := σ) (F := [41]) hm h33 (show 20 + k < 30 by omega) rfM.rf).mo (fun σ' v g => ?_)
    exact ⟨g.1, g.2.1, b41.keep g.2.2 (by simp)⟩
