/-! ===== the reference works anew, in the order of the words ===== -/
def Unq (W : List Nat) : Prop := ∀ a b w : Nat, W[a]? = some w → W[b]? = some w → a = b
theorem fst_get {ns : List NE} {t : Nat} {e : NE} (h : ns[t]? = some e) : (ns.map (·.1))[t]? = some e.1 := by rw [List.getElem?_map, h]; rfl
theorem fst_of {ns : List NE} {t w : Nat} (h : (ns.map (·.1))[t]? = some w) : ∃ e, ns[t]? = some e ∧ e.1 = w := by
  rw [List.getElem?_map] at h
  cases he : ns[t]? with
  | none => rw [he] at h; cases h
  | some e => rw [he] at h; exact ⟨e, rfl, Option.some.inj h⟩
theorem nvl_i {ns : List NE} (hu : Unq (ns.map (·.1))) {w : Nat} {q : Qv} : nvl ns w = some q ↔ ∃ e ∈ ns, e.1 = w ∧ e.2.2 = q := by
  constructor
  · intro h
    obtain ⟨k, e, _, h2, h3, h4⟩ := nvl_some h
    exact ⟨e, List.mem_of_getElem? h2, h3, h4⟩
  · rintro ⟨e, he, rfl, rfl⟩
    obtain ⟨t, ht⟩ := List.getElem?_of_mem he
    unfold nvl
    cases hf : fix (ns.map (·.1)) e.1 with
    | none =>
      have := List.findIdx?_eq_none_iff.mp hf e.1 (List.mem_of_getElem? (fst_get ht))
      simp at this
    | some k =>
      have := hu k t e.1 (fix_get hf) (fst_get ht)
      subst this
      show ns[k]?.map (·.2.2) = _
      rw [ht]
      rfl
theorem nvl_pm {a b : List NE} (h : ∀ e, e ∈ a ↔ e ∈ b) (ha : Unq (a.map (·.1))) (hb : Unq (b.map (·.1))) : nvl a = nvl b := by
  funext w
  apply Option.ext
  intro q
  rw [nvl_i ha, nvl_i hb]
  constructor
  · rintro ⟨e, h1, h2⟩; exact ⟨e, (h e).mp h1, h2⟩
  · rintro ⟨e, h1, h2⟩; exact ⟨e, (h e).mpr h1, h2⟩
theorem set_fst {e x : NE} : ∀ {l : List NE} {i : Nat}, l[i]? = some e → x.1 = e.1 → (l.set i x).map (·.1) = l.map (·.1) := by
  intro l
  induction l with
  | nil => intro i h; cases h
  | cons a l ih =>
    intro i h hx
    cases i with
    | zero =>
      have h : a = e := Option.some.inj h
      show x.1 :: l.map (·.1) = a.1 :: l.map (·.1)
      rw [hx, h]
    | succ i =>
      show a.1 :: (l.set i x).map (·.1) = a.1 :: l.map (·.1)
      rw [ih (i := i) h hx]
theorem set_mem {e x y : NE} {l : List NE} {i : Nat} (hu : Unq (l.map (·.1))) (h : l[i]? = some e) : y ∈ l.set i x ↔ y = x ∨ (y ∈ l ∧ y ≠ e) := by
  have hi := (List.getElem?_eq_some_iff.mp h).1
  constructor
  · intro hy
    obtain ⟨t, ht⟩ := List.getElem?_of_mem hy
    rw [List.getElem?_set] at ht
    by_cases c : i = t
    · subst c
      rw [if_pos rfl, if_pos hi] at ht
      exact Or.inl (Option.some.inj ht).symm
    · rw [if_neg c] at ht
      refine Or.inr ⟨List.mem_of_getElem? ht, fun q => ?_⟩
      subst q
      exact c (hu i t y.1 (fst_get h) (fst_get ht))
  · rintro (rfl | ⟨h1, h2⟩)
    · exact List.mem_of_getElem? (i := i) (by rw [List.getElem?_set, if_pos rfl, if_pos hi])
    · obtain ⟨t, ht⟩ := List.getElem?_of_mem h1
      refine List.mem_of_getElem? (i := t) ?_
      rw [List.getElem?_set, if_neg]
      · exact ht
      · intro q
        subst q
        rw [h] at ht
        exact h2 (Option.some.inj ht).symm
theorem find_fst {p : Nat → Bool} : ∀ {L : List Nat} {i : Nat}, L.Pairwise (· < ·) → L.find? p = some i → p i = true ∧ i ∈ L ∧ ∀ j ∈ L, p j = true → i ≤ j := by
  intro L
  induction L with
  | nil => intro i _ h; cases h
  | cons a L ih =>
    intro i hp h
    have hp' := List.pairwise_cons.mp hp
    rw [List.find?_cons] at h
    cases c : p a with
    | true =>
      rw [c] at h
      have h : a = i := Option.some.inj h
      subst h
      refine ⟨c, List.mem_cons_self, fun j hj _ => ?_⟩
      rcases List.mem_cons.mp hj with rfl | hj
      · exact Nat.le_refl _
      · have := hp'.1 j hj; omega
    | false =>
      rw [c] at h
      obtain ⟨g1, g2, g3⟩ := ih hp'.2 h
      refine ⟨g1, List.mem_cons_of_mem _ g2, fun j hj hpj => ?_⟩
      rcases List.mem_cons.mp hj with rfl | hj
      · rw [c] at hpj; cases hpj
      · exact g3 j hj hpj
def RnP (m v0 B : Nat) (fsR : List FE) (WR : List Nat) (res : Nat ⊕ List NE) (σ σ' : St) (v : Int32) : Prop := rfM m FRn ARn (VRn v0) σ σ' ∧ match res with
  | .inl w => v = nI 0 ∧ Fi σ' m 43 (nI 9) ∧ Fi σ' m 44 (nI 0) ∧ Fi σ' m 45 (nI w) ∧ Fi σ' m 46 (nI 0)
  | .inr nsS' => v = nI 1 ∧ rfM m FRg ARn (VRn v0) σ σ' ∧ ∃ nsR' vm', (∀ e, e ∈ nsR' ↔ e ∈ nsS') ∧ nsR'.map (·.1) = WR ∧ Rbk σ' m vm' nsR' fsR ∧ Fi σ' m 5 (nI vm') ∧ (600 ≤ vm' ∧ v0 ≤ vm' ∧ vm' ≤ B)
theorem rn_47 {m v0 B : Nat} {fsR fsS : List FE} {T : List Th} {WS WR : List Nat} {res : Nat ⊕ List NE} (uS : Unq WS) (uR : Unq WR) (hfb : fbd fsR = fbd fsS) (hTs : T.Pairwise thlt) (hac : Acy T) :
    ∀ (k : Nat) (nsS : List NE) (L : List Nat) (nsR : List NE) (lf : Nat → Prop) (vm n : Nat) (σ : St), k < n → rnw T fsS k nsS L = some res → T = Ths nsS fsS → (∀ e, e ∈ Ths nsR fsR ↔ e ∈ T) → (∀ e, e ∈ nsR ↔ e ∈ nsS) → nsS.map (·.1) = WS → nsR.map (·.1) = WR → L.Pairwise (· < ·) → (∀ i ∈ L, i < nsS.length) →
      (∀ t, lf t ↔ ∃ i ∈ L, ∃ w, WS[i]? = some w ∧ WR[t]? = some w) → MS σ m → Rbk σ m vm nsR fsR → LfA σ m lf → Fi σ m 5 (nI vm) → (600 ≤ vm ∧ v0 ≤ vm ∧ vm + k ≤ B ∧ B ≤ 12600) → (∀ e ∈ nsR, wd e.1) → Hx (fX12_renews_47 n σ m) (RnP m v0 B fsR WR res σ) := by
  intro k
  induction k with
  | zero =>
    intro nsS L nsR lf vm n σ hn hw hT hTR hpm hWS hWR hL1 hL2 hlf hm hB hLf h5 hv hwd
    obtain ⟨n, rfl⟩ : ∃ j, n = j + 1 := ⟨n - 1, by omega⟩
    have e : rnw T fsS 0 nsS L = if L = [] then some (Sum.inr nsS) else none := rfl
    rw [e] at hw
    split at hw
    · rename_i c
      have hw := Option.some.inj hw
      subst hw
      rw [n_fX12_renews_47]
      refine rn_51 hwd FU 0 _ σ (by have := hB.1.2.1; unfold FU; omega) (by omega) hm hB hLf (Or.inl ⟨rfl, fun t ht => absurd ht (by omega)⟩) (fun σ' v m1 r1 b1 => ?_)
      have : v = iz (-1) := by
        rcases b1 with ⟨q, _⟩ | ⟨b, e, _, _, q, _⟩
        · exact q
        · obtain ⟨i, hi, _⟩ := (hlf b).mp q
          rw [c] at hi
          cases hi
      subst this
      unfold rnF
      refine Hx.ce rfl (fun _ => ?_) (fun q => absurd rfl q)
      exact Hx.ret ⟨r1.mo ⟨by decide, by decide⟩ (fun _ q => q.elim), rfl, r1.mo ⟨by decide, by decide⟩ (fun _ q => q.elim), nsR, vm, hpm, hWR, hB.keepM r1 (by unfold Rnot; decide) (fun _ _ _ q => q), h5.keep r1 (by decide), by omega, by omega, by omega⟩
    · cases hw
  | succ k ih =>
    intro nsS L nsR lf vm n σ hn hw hT hTR hpm hWS hWR hL1 hL2 hlf hm hB hLf h5 hv hwd
    obtain ⟨n, rfl⟩ : ∃ j, n = j + 1 := ⟨n - 1, by omega⟩
    have e : rnw T fsS (k + 1) nsS L = if L = [] then some (Sum.inr nsS) else (rdyF T L).bind fun i => nsS[i]?.bind fun e => (wrk (nvl nsS) (fbd fsS) 1000000 [] e.2.1 [] 0 []).bind fun r => if r.1 = 0 then rnw T fsS k (nsS.set i (e.1, e.2.1, r.2.2.1)) (L.erase i) else some (Sum.inl e.1) := rfl
    rw [e] at hw
    rw [n_fX12_renews_47]
    refine rn_51 hwd FU 0 _ σ (by have := hB.1.2.1; unfold FU; omega) (by omega) hm hB hLf (Or.inl ⟨rfl, fun t ht => absurd ht (by omega)⟩) (fun σ' v m1 r1 b1 => ?_)
    have hB1 := hB.keepM r1 (by unfold Rnot; decide) (fun _ _ _ q => q)
    by_cases c : L = []
    · rw [if_pos c] at hw
      have hw := Option.some.inj hw
      subst hw
      have : v = iz (-1) := by
        rcases b1 with ⟨q, _⟩ | ⟨b, e, _, _, q, _⟩
        · exact q
        · obtain ⟨i, hi, _⟩ := (hlf b).mp q
          rw [c] at hi
          cases hi
      subst this
      unfold rnF
      refine Hx.ce rfl (fun _ => ?_) (fun q => absurd rfl q)
      exact Hx.ret ⟨r1.mo ⟨by decide, by decide⟩ (fun _ q => q.elim), rfl, r1.mo ⟨by decide, by decide⟩ (fun _ q => q.elim), nsR, vm, hpm, hWR, hB1, h5.keep r1 (by decide), by omega, by omega, by omega⟩
    rw [if_neg c] at hw
    cases hi : rdyF T L with
    | none => rw [hi] at hw; cases hw
    | some i =>
    rw [hi] at hw
    obtain ⟨d1, d2, d3⟩ := find_fst hL1 hi
    have d1 : rdyP T L i := (@decide_eq_true_iff _ (Classical.propDecidable _)).mp d1
    have d3 : ∀ j ∈ L, rdyP T L j → i ≤ j := fun j hj q => d3 j hj ((@decide_eq_true_iff _ (Classical.propDecidable _)).mpr q)
    have hil := hL2 i d2
    obtain ⟨e, he⟩ : ∃ e, nsS[i]? = some e := ⟨_, List.getElem?_eq_getElem hil⟩
    have hw : (wrk (nvl nsS) (fbd fsS) 1000000 [] e.2.1 [] 0 []).bind (fun r => if r.1 = 0 then rnw T fsS k (nsS.set i (e.1, e.2.1, r.2.2.1)) (L.erase i) else some (Sum.inl e.1)) = some res := by
      have hw : (nsS[i]?.bind fun e => (wrk (nvl nsS) (fbd fsS) 1000000 [] e.2.1 [] 0 []).bind fun r => if r.1 = 0 then rnw T fsS k (nsS.set i (e.1, e.2.1, r.2.2.1)) (L.erase i) else some (Sum.inl e.1)) = some res := hw
      rw [he] at hw
      exact hw
    have hTn : ∀ (j : Nat) (ej : NE), nsS[j]? = some ej → T[j]? = some (0, ej.1, ej.2.1) := by
      intro j ej hj
      rw [hT, Ths_get, if_pos (List.getElem?_eq_some_iff.mp hj).1, hj]
      rfl
    -- one word, one name
    have same : ∀ (a b : Nat) (ea eb : NE), nsS[a]? = some ea → nsR[b]? = some eb → ea.1 = eb.1 → ea = eb := by
      intro a b ea eb h1 h2 h3
      obtain ⟨a', h4⟩ := List.getElem?_of_mem ((hpm eb).mp (List.mem_of_getElem? h2))
      have : a = a' := by
        refine uS a a' ea.1 ?_ ?_
        · rw [← hWS]; exact fst_get h1
        · rw [← hWS, h3]; exact fst_get h4
      subst this
      rw [h1] at h4
      exact Option.some.inj h4
    -- ready on one side is ready on the other
    have rd1 : ∀ (a b : Nat) (ea : NE), nsS[a]? = some ea → nsR[b]? = some ea → rdyP T L a → rdR nsR fsR lf b := by
      intro a b ea h1 h2 h3 e' j ej g1 g2 g3 g4 g5
      rw [h2] at g1
      cases g1
      obtain ⟨x, hx, h4⟩ := h3
      rw [hTn a ea h1] at hx
      cases hx
      obtain ⟨i', q1, w, q2, q3⟩ := (hlf j).mp g4
      rw [← hWS] at q2
      obtain ⟨e2, q4, q5⟩ := fst_of q2
      rw [← hWR, fst_get g2] at q3
      have q6 := same i' j e2 ej q4 g2 (by rw [q5]; exact (Option.some.inj q3).symm)
      subst q6
      exact h4 i' q1 ⟨_, hTn i' e2 q4, (Rch.congr hTR).mp g5⟩
    have rd2 : ∀ (a b : Nat) (ea : NE), nsS[a]? = some ea → nsR[b]? = some ea → rdR nsR fsR lf b → rdyP T L a := by
      intro a b ea h1 h2 h3
      refine ⟨_, hTn a ea h1, fun j hj => ?_⟩
      rintro ⟨x, hx, hr⟩
      obtain ⟨ej, hej⟩ : ∃ ej, nsS[j]? = some ej := ⟨_, List.getElem?_eq_getElem (hL2 j hj)⟩
      rw [hTn j ej hej] at hx
      cases hx
      by_cases cj : j = a
      · subst cj
        rw [h1] at hej
        cases hej
        exact hac _ (List.mem_of_getElem? (hTn j ea h1)) hr
      · obtain ⟨t, ht⟩ := List.getElem?_of_mem ((hpm ej).mpr (List.mem_of_getElem? hej))
        refine h3 ea t ej h2 ht (fun q => ?_) ((hlf t).mpr ⟨j, hj, ej.1, ?_, ?_⟩) ((Rch.congr hTR).mpr hr)
        · subst q
          rw [h2] at ht
          cases ht
          refine cj (uS j a ea.1 ?_ ?_)
          · rw [← hWS]; exact fst_get hej
          · rw [← hWS]; exact fst_get h1
        · rw [← hWS]; exact fst_get hej
        · rw [← hWR]; exact fst_get ht
    -- the one that the search finds
    obtain ⟨b0, hb0⟩ := List.getElem?_of_mem ((hpm e).mpr (List.mem_of_getElem? he))
    have hb0l := (List.getElem?_eq_some_iff.mp hb0).1
    have lf0 : lf b0 := (hlf b0).mpr ⟨i, d2, e.1, by rw [← hWS]; exact fst_get he, by rw [← hWR]; exact fst_get hb0⟩
    have rd0 := rd1 i b0 e he hb0 d1
    obtain ⟨rfl, lfb, heb⟩ : v = nI b0 ∧ lf b0 ∧ nsR[b0]? = some e := by
      refine ⟨?_, lf0, hb0⟩
      rcases b1 with ⟨_, q⟩ | ⟨b, eb, rfl, q2, q3, q4, q5, q6⟩
      · exact absurd rd0 (q b0 hb0l lf0)
      · have kl := q6 b0 hb0l lf0 rd0 e hb0
        obtain ⟨i', u1, w, u2, u3⟩ := (hlf b).mp q3
        rw [← hWS] at u2
        obtain ⟨e2, u4, u5⟩ := fst_of u2
        rw [← hWR, fst_get q5] at u3
        have u6 := same i' b e2 eb u4 q5 (by rw [u5]; exact (Option.some.inj u3).symm)
        subst u6
        have le := d3 i' u1 (rd2 i' b e2 u4 q5 q4)
        have eq : i = i' := by
          apply Classical.byContradiction
          intro q
          have hlt : i < i' := by omega
          have t1 := hTn i e he
          have t2 := hTn i' e2 u4
          have l1 := (List.getElem?_eq_some_iff.mp t1)
          have l2 := (List.getElem?_eq_some_iff.mp t2)
          have pw := List.pairwise_iff_getElem.mp hTs i i' l1.1 l2.1 hlt
          rw [l1.2, l2.2] at pw
          rcases pw with pw | ⟨_, pw⟩
          · exact absurd pw (show ¬ (0 : Nat) < 0 by omega)
          · have pw : wkey e.1 < wkey e2.1 := pw
            omega
        subst eq
        rw [he] at u4
        cases u4
        have : b = b0 := uR b b0 e.1 (by rw [← hWR]; exact fst_get q5) (by rw [← hWR]; exact fst_get hb0)
        rw [this]
    have hnv : nvl nsR = nvl nsS := nvl_pm hpm (by rw [hWR]; exact uR) (by rw [hWS]; exact uS)
    cases hr : wrk (nvl nsS) (fbd fsS) 1000000 [] e.2.1 [] 0 [] with
    | none => rw [hr] at hw; cases hw
    | some r =>
    rw [hr] at hw
    have hw : (if r.1 = 0 then rnw T fsS k (nsS.set i (e.1, e.2.1, r.2.2.1)) (L.erase i) else some (Sum.inl e.1)) = some res := hw
    refine rn_step (v0 := v0) m1 hB1 (hLf.keep r1 (by decide)) (h5.keep r1 (by decide)) ⟨hv.1, by omega⟩ hv.2.1 heb (by rw [hnv, hfb]; exact hr) (fun g σ2 g1 g2 g3 g4 g5 => ?_) (fun g σ2 vm' g1 m2 g2 g3 g4 g5 => ?_)
    · rw [if_neg g] at hw
      have hw := Option.some.inj hw
      subst hw
      exact ⟨(r1.mo ⟨by decide, by decide⟩ (fun _ q => q.elim)).tr g1, rfl, g2, g3, g4, g5⟩
    · rw [if_pos g] at hw
      have uSn : Unq (nsS.map (·.1)) := by rw [hWS]; exact uS
      have uRn : Unq (nsR.map (·.1)) := by rw [hWR]; exact uR
      have go := ih (nsS.set i (e.1, e.2.1, r.2.2.1)) (L.erase i) (nsR.set b0 (e.1, e.2.1, r.2.2.1)) (fun t => lf t ∧ t ≠ b0) vm' n σ2 (by omega) hw (by rw [Ths_set (e' := (e.1, e.2.1, r.2.2.1)) he rfl rfl]; exact hT) (by rw [Ths_set (e' := (e.1, e.2.1, r.2.2.1)) heb rfl rfl]; exact hTR) (fun y => by rw [set_mem uRn heb, set_mem uSn he, hpm y]) (by rw [set_fst (x := (e.1, e.2.1, r.2.2.1)) he rfl]; exact hWS) (by rw [set_fst (x := (e.1, e.2.1, r.2.2.1)) heb rfl]; exact hWR) (List.Pairwise.sublist List.erase_sublist hL1) (fun j hj => by rw [List.length_set]; exact hL2 j (List.mem_of_mem_erase hj)) (fun t => ?_) m2 g2 g3 g4 (by omega) (fun y hy => ?_)
      · refine go.mo (fun σ3 v3 g6 => ?_)
        obtain ⟨g7, g8⟩ := g6
        have r9 : rfM m FRg ARn (VRn v0) σ σ2 := (r1.mo ⟨by decide, by decide⟩ (fun _ q => q.elim)).tr g1
        have r10 : rfM m FRn ARn (VRn v0) σ σ3 := (r9.mo ⟨by decide, by decide⟩ (fun _ q => q)).tr g7
        cases res with
        | inl w => exact ⟨r10, g8⟩
        | inr x => exact ⟨r10, g8.1, r9.tr g8.2.1, g8.2.2⟩
      · constructor
        · rintro ⟨h1, h2⟩
          obtain ⟨j, u1, w, u2, u3⟩ := (hlf t).mp h1
          refine ⟨j, (List.mem_erase_of_ne (fun q => ?_)).mpr u1, w, u2, u3⟩
          subst q
          rw [← hWS, fst_get he] at u2
          cases u2
          refine h2 (uR t b0 e.1 u3 ?_)
          rw [← hWR]; exact fst_get heb
        · rintro ⟨j, u1, w, u2, u3⟩
          refine ⟨(hlf t).mpr ⟨j, List.mem_of_mem_erase u1, w, u2, u3⟩, fun q => ?_⟩
          subst q
          rw [← hWR, fst_get heb] at u3
          cases u3
          have ej : j = i := uS j i e.1 u2 (by rw [← hWS]; exact fst_get he)
          subst ej
          have nd : L.Nodup := hL1.imp (fun h => Nat.ne_of_lt h)
          exact (List.Nodup.not_mem_erase nd) u1
      · rcases (set_mem uRn heb).mp hy with rfl | ⟨hy, _⟩
        · exact hwd e (List.mem_of_getElem? heb)
        · exact hwd y hy
