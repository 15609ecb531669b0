/-! ===== the reference's run: what is told stands, or is taken back ===== -/
theorem fix_at {α : Type} {f : α → Nat} {l : List α} {w k : Nat} {e : α} (hu : Unq (l.map f)) (he : e ∈ l) (hw : f e = w) (hk : fix (l.map f) w = some k) : l[k]? = some e := by
  obtain ⟨i, hi⟩ := List.getElem?_of_mem he
  have : k = i := hu k i w (fix_get hk) (by rw [List.getElem?_map, hi, ← hw]; rfl)
  rw [this]
  exact hi
theorem kp_T2 {m vm v0 k0 dn : Nat} {F : List Nat} {σ σ' : St} (h : rfM m F AT2 (VRn vm) σ σ') (hv : v0 ≤ vm) : Kp m v0 k0 dn σ σ' := Kp.of h (by decide) (fun i h1 h2 z => by
  rcases z with z | z
  · omega
  · omega)
theorem tl_bad {σ σ' : St} {m vm tp d fw : Nat} {c : Rct} {c0 : Rd} {U D : List Rd} {B : As} {UA DA : List As} {nsR : List NE} {fsR fsR1 : List FE} {WR t wr : List Nat} {sts sts0 : Sts} {x2 v : Int32} {shown : Prop} {q : Qv} {sl : List Qv} {e : Int} (hm : MS σ m) (hS : Snp σ m c.1 c.2.1 c.2.2 c0 B) (hU : All2 σ m c.1 c.2.1 c.2.2 U UA) (hD : All2 σ m c.1 c.2.1 c.2.2 D DA) (hAn : RAn σ m c.1 q) (hSl : RSl σ m c.1 sl) (hWr : RWr σ m wr) (hSh : Shn σ m sts0) (hv : c.1 ≤ vm ∧ 600 ≤ vm)
    (g : TlP m vm tp d c0 U D nsR fsR fsR1 WR sts x2 shown (.inl fw) σ σ' v) : v = nI 0 ∧ RC σ' m c (t, e, ((9 : Int), (0 : Int), (fw : Int), ([] : List Int)), q, sl, wr, sts0, B, UA, DA) ∧ rfM m FT2 AT2 (VRn vm) σ σ' := by
  obtain ⟨_, rfl, ⟨f1, f2, f3, f4⟩, hH, _, r⟩ := g
  have hK : Kp m c.1 c.2.1 c.2.2 σ σ' := kp_T2 r hv.1
  have sh : ∀ i, 200 ≤ i → i < 400 → ¬ VRn vm i := fun i h1 h2 z => by
    rcases z with z | z
    · omega
    · omega
  refine ⟨rfl, ⟨r.ms hm, ⟨?_, ?_, ?_, f4, Nat.zero_le _, fun i z h => (by cases h)⟩, ⟨hAn.keep r hK (by decide), hSl.keep r hK (by decide), hWr.keep r (by decide) (by decide), hSh.keep r (by decide) (by decide) sh⟩, c0, U, D, hH, hS.kp hK, hU.kp hK, hD.kp hK⟩, r⟩
  · show Fi σ' m 43 (iz ((9 : Nat) : Int)); rw [← sm_iz]; exact f1
  · show Fi σ' m 44 (iz ((0 : Nat) : Int)); rw [← sm_iz]; exact f2
  · show Fi σ' m 45 (iz (fw : Int)); rw [← sm_iz]; exact f3
theorem tl_in {σ σ' : St} {m vm tp k1 : Nat} {c : Rct} {c0 : Rd} {U D : List Rd} {B : As} {UA : List As} {nsR ns' : List NE} {fsR fsR1 : List FE} {WR wr : List Nat} {sts : Sts} {x2 v : Int32} {shown : Prop} {sl : List Qv} {r : Rfs} (hm : MS σ m) (hH : RHi σ m c0 U D) (hS : Snp σ m c.1 c.2.1 c.2.2 c0 B) (hU : All2 σ m c.1 c.2.1 c.2.2 U UA) (hSl : RSl σ m c.1 sl) (hWr : RWr σ m wr) (hRf : RRf σ m r) (hv : 600 ≤ vm ∧ c.1 ≤ vm ∧ vm + 20 ≤ 12600) (hdn : c.2.2 + 1 ≤ 600) (hk : c.2.1 ≤ k1 ∧ k1 ≤ 12000) (hDe : sA σ (m + 11) c.2.2 = nI k1)
    (h1 : ∀ k, k < WR.length → k ≠ tp → k < B.1.length) (h2 : ∀ k, k < fsR1.length → 20 + k ≠ tp → k < B.2.1.length)
    (g : TlP m vm tp c.2.2 c0 U D nsR fsR fsR1 WR sts x2 shown (.inr ns') σ σ' v) : v = nI 1 ∧ ∃ nsR' vm', (∀ e, e ∈ nsR' ↔ e ∈ ns') ∧ nsR'.map (·.1) = WR ∧ (vm ≤ vm' ∧ vm' ≤ vm + 20) ∧ Fi σ' m 5 (nI vm') ∧ RH σ' m vm' k1 (c.2.2 + 1) (nsR', fsR1, B.2.2) ((if UA.length = 20 then UA.tail else UA) ++ [B]) [] ∧ (RSl σ' m vm' sl ∧ RWr σ' m wr ∧ RRf σ' m r) ∧ MS σ' m ∧ (shown → Shn σ' m sts ∧ Fi σ' m 57 x2) ∧ rfM m FT3 A108 (V108 vm) σ σ' ∧ (¬ shown → rfM m FT4 AT2 (VRn vm) σ σ') := by
  obtain ⟨_, rfl, ⟨nsR', vm', u1, u2, u3, u4, u5⟩, ⟨c', w1⟩, w2, ⟨w3, w4⟩, ⟨w5, w6⟩, w7, w8⟩ := g
  have hKb : ∀ dn', Kp m vm k1 dn' σ σ' := fun dn' => Kp.of w3 (by decide) (fun i h1 h2 z => by
    rcases z with z | z
    · omega
    · omega)
  have hK := (hKb (c.2.2 + 1)).mo hv.2.1 hk.1 (Nat.le_succ c.2.2)
  have hS1 : Snp σ m vm c.2.1 c.2.2 (curR σ m) B := (hS.rd hH.1.sy).up ⟨hv.2.1, by omega⟩ (Nat.le_refl _) ⟨Nat.le_refl _, by omega⟩
  have hcur := hS1.tell (hKb (c.2.2 + 1)) hdn hk ⟨u5.2.1, by omega⟩ hDe u3 w5 w6 w7 w8 (fun k hk' hn => h1 k (by rw [← u2, List.length_map]; exact hk') hn) h2
  have g1 : c.1 ≤ vm' ∧ vm' ≤ 12600 := by omega
  have g3 : c.2.2 ≤ c.2.2 + 1 ∧ c.2.2 + 1 ≤ 600 := by omega
  refine ⟨rfl, nsR', vm', u1, u2, u5.2, u4, ⟨c', _, [], w1, hcur.rd w1.1, ?_, All2.nil⟩, ⟨(hSl.keep w3 hK (by decide)).up g1, hWr.keep w3 (by decide) (by decide), hRf.keep w3 (by decide) (by decide)⟩, w3.ms hm, w2, w3, w4⟩
  have hB2 : Snp σ' m vm' k1 (c.2.2 + 1) c0 B := (hS.kp hK).up g1 hk.1 g3
  have hU2 : All2 σ' m vm' k1 (c.2.2 + 1) U UA := (hU.kp hK).up g1 hk.1 g3
  rw [hU.1]
  split
  · exact hU2.tail.snoc hB2
  · exact hU2.snoc hB2
def RunO (m : Nat) (c : Rct) (s : Rst) (form n : Nat) (oc : Ocm) (σ' : St) (v : Int32) : Prop := match oc with
  | .inl rf => v = nI 0 ∧ Fi σ' m 0 (nI 2) ∧ RI σ' m c ([], -1, rf, s.2.2.2)
  | .inr (v', A') => v = nI form ∧ Fi σ' m 0 (nI 0) ∧ ∃ (c' : Rct) (B' : As), Bti A' B' ∧ RI σ' m c' (rnS form s v' B') ∧ (c.1 ≤ c'.1 ∧ c'.1 ≤ c.1 + n + 22) ∧ c'.2.1 ≤ c.2.1 + n ∧ c'.2.2 ≤ c.2.2 + 1
noncomputable def rnC (m k0 v0 : Nat) (σ5 : St) (v6 : Int32) : Option (St × Int32) := if v6 = (nI 0) then (fX12_run_146 σ5 m (nI k0) (nI v0) v6) else (Option.bind (gI σ5 16 32 m) fun v9 => if v9 = (nI 0) then (fX12_run_146 σ5 m (nI k0) (nI v0) v6) else (fX12_run_208 σ5 m v6))
theorem run_bad {σ σ5 : St} {m form n : Nat} {c : Rct} {s : Rst} {oc : Ocm} {r : Rfs} (ho : oc = .inl r) (h : RC σ5 m c (s.1, s.2.1, r, s.2.2.2)) (h0 : Fi σ5 m 0 (nI 0)) (h25 : Fi σ5 m 25 (nI (c.2.2 + 1))) (h9 : Fi σ5 m 9 (iz (-1))) (h8 : Fi σ5 m 8 (nI 0)) (hb : 600 ≤ c.1 ∧ c.1 ≤ 12600 ∧ c.2.1 ≤ 12000 ∧ c.2.2 ≤ 600) {F A : List Nat} {V : Nat → Prop} (hR : rfM m F A V σ σ5) :
    Hx (rnC m c.2.1 c.1 σ5 (nI 0)) (fun σ' v => rfE m σ σ' ∧ RunO m c s form n oc σ' v) := by
  unfold rnC
  refine Hx.ce rfl (fun _ => ?_) (fun z => absurd rfl z)
  refine (rf_run_bad h rfl h0 h25 h9 h8 hb).mo (fun σ' v g => ?_)
  subst ho
  exact ⟨hR.1.tr g.1, g.2.1, g.2.2.1, g.2.2.2⟩
theorem run_good {σ5 : St} {m form k0 v0 : Nat} {P : St → Int32 → Prop} (hm : MS σ5 m) (h0 : Fi σ5 m 0 (nI 0)) (h32 : Fi σ5 m 32 (nI form)) (hf : 0 < form ∧ form < 2147483648) (hP : P σ5 (nI form)) : Hx (rnC m k0 v0 σ5 (nI 1)) P := by
  unfold rnC
  refine Hx.ce (sm_eq (show 1 < 2147483648 by omega) (by omega)) (fun z => absurd z (by omega)) (fun _ => ?_)
  rw [fi_g hm h32]
  refine hx_bs (Hx.ce (sm_eq hf.2 (by omega)) (fun z => absurd z (by omega)) (fun _ => ?_))
  rw [rf_208_1 hm h0 h32]
  exact Hx.ret hP
