/-! ===== the reference's calls: the best approximation ===== -/
abbrev Bes := Nat × Nat × Nat
noncomputable def lkB (by0 a t : Nat) (B : Bes) : Bes := if 0 < B.1 ∧ ¬ (t * B.1 < B.2.2 * by0) then B else (by0, a, t)
noncomputable def bsp (q : Qv) (by0 : Nat) (B : Bes) : Bes := if q.1 < 0 then lkB by0 (q.2.1 * by0 / q.2.2) (q.2.1 * by0 % q.2.2) (lkB by0 (q.2.1 * by0 / q.2.2 + 1) (q.2.2 - q.2.1 * by0 % q.2.2) B) else lkB by0 (q.2.1 * by0 / q.2.2 + 1) (q.2.2 - q.2.1 * by0 % q.2.2) (lkB by0 (q.2.1 * by0 / q.2.2) (q.2.1 * by0 % q.2.2) B)
noncomputable def bsl (q : Qv) : Nat → Nat → Bes → Bes
  | 0, _, B => B
  | k + 1, b, B => bsl q k (b + 1) (bsp q b B)
def sgB (q : Qv) : Int := if q.1 < 0 then -1 else 1
/-- the best so far, in the registers -/
def BS (σ : St) (m d : Nat) (sg : Int) (B : Bes) : Prop := Fi σ m 81 (nI B.1) ∧ B.1 ≤ 1000 ∧ (0 < B.1 → (Rv σ m 13 B.2.1 ∧ Rv σ m 14 B.2.2 ∧ Fi σ m 80 (iz sg)) ∧ B.2.1 < 10000 ^ 10 ∧ B.2.2 ≤ d)
def Kr (m : Nat) (σ σ' : St) : Prop := ∀ r x, (r = 0 ∨ r = 1 ∨ r = 9 ∨ r = 10) → Rv σ m r x → Rv σ' m r x
theorem Kr.tr {m : Nat} {σ σ1 σ2 : St} (h : Kr m σ σ1) (h' : Kr m σ1 σ2) : Kr m σ σ2 := fun r x hr hv => h' r x hr (h r x hr hv)
theorem Kr.R {m : Nat} {S : List Nat} {σ σ' : St} (h : rfR m S σ σ') (hS : 0 ∉ S ∧ 1 ∉ S ∧ 9 ∉ S ∧ 10 ∉ S) : Kr m σ σ' := fun r x hr hv => by
  rcases hr with rfl | rfl | rfl | rfl
  · exact hv.keep h hS.1
  · exact hv.keep h hS.2.1
  · exact hv.keep h hS.2.2.1
  · exact hv.keep h hS.2.2.2
theorem rf_looks_51 {σ : St} {m d b a t : Nat} {sg : Int} (hm : MS σ m) (hA : Rv σ m 4 a) (hT : Rv σ m 5 t) (hb : 0 < b ∧ b ≤ 1000) (ha : a < 10000 ^ 10) (ht : t ≤ d) : Hx (fX12_looks_51 σ m (nI b) (iz sg)) (fun σ' _ => rfM m [80, 81] [1, 2] nV σ σ' ∧ Kr m σ σ' ∧ BS σ' m d sg (b, a, t)) := by
  rw [n_fX12_looks_51, rf_ck hm]
  refine hx_bs ?_
  obtain ⟨σ1, e1, r1, v1⟩ := rf_copies (t := 13) (f := 4) hm (by omega) (by omega) (by omega) hA
  rw [e1]
  refine hx_cs ?_
  have m1 := r1.ms hm
  rw [rf_ck m1]
  refine hx_bs ?_
  obtain ⟨σ2, e2, r2, v2⟩ := rf_copies (t := 14) (f := 5) m1 (by omega) (by omega) (by omega) (hT.keep r1 (by decide))
  rw [e2]
  refine hx_cs ?_
  have m2 := r2.ms m1
  rw [rf_pI m2]
  refine hx_bs ?_
  have w3 : rfM m [80, 81] [] nV σ2 (wI σ2 (fid 16 81) m (nI b)) := rfM.wI (by simp)
  have f3 : Fi (wI σ2 (fid 16 81) m (nI b)) m 81 (nI b) := fi_wI
  generalize wI σ2 (fid 16 81) m (nI b) = σ3 at w3 f3 ⊢
  have m3 := w3.ms m2
  rw [rf_pI m3]
  refine hx_bs ?_
  have w4 : rfM m [80] [] nV σ3 (wI σ3 (fid 16 80) m (iz sg)) := rfM.wI (by simp)
  have f4 : Fi (wI σ3 (fid 16 80) m (iz sg)) m 80 (iz sg) := fi_wI
  generalize wI σ3 (fid 16 80) m (iz sg) = σ4 at w4 f4 ⊢
  have w34 : rfM m [80, 81] [] nV σ2 σ4 := w3.tr (w4.mo ⟨by decide, by decide⟩ (fun _ z => z))
  have R2 : rfM m [] [1, 2] nV σ σ2 := r1.M.tr r2.M
  refine Hx.ret ⟨(R2.mo ⟨by decide, by decide⟩ (fun _ z => z)).tr (w34.mo ⟨by decide, by decide⟩ (fun _ z => z)), fun r x hr hv => ((Kr.R r1 (by decide)).tr (Kr.R r2 (by decide)) r x hr hv).kM w34 (by decide), f3.keep w4 (by decide), hb.2, fun _ => ⟨⟨(v1.keep r2 (by decide)).kM w34 (by decide), v2.kM w34 (by decide), f4⟩, ha, ht⟩⟩
theorem rf_looks {σ : St} {m d b a t : Nat} {sg : Int} {B : Bes} (hd : d < dig30) (hm : MS σ m) (hS : BS σ m d sg B) (hA : Rv σ m 4 a) (hT : Rv σ m 5 t) (hb : 0 < b ∧ b ≤ 1000) (ha : a < 10000 ^ 10) (ht : t ≤ d) : Hx (fX12_looks σ m (nI b) (iz sg)) (fun σ' _ => rfM m [80, 81] [1, 2] nV σ σ' ∧ Kr m σ σ' ∧ BS σ' m d sg (lkB b a t B)) := by
  have hd8 := dig30_lt
  obtain ⟨s1, s2, s3⟩ := hS
  rw [n_fX12_looks, fi_g hm s1]
  refine hx_bs ?_
  unfold lkB
  refine Hx.ce (sm_le (by omega) (by omega)) (fun c => ?_) (fun c => ?_)
  · rw [if_neg (fun z => absurd z.1 (by omega))]
    exact rf_looks_51 hm hA hT hb ha ht
  · obtain ⟨⟨q1, q2, q3⟩, q4, q5⟩ := s3 (by omega)
    rw [rf_ck hm]
    refine hx_bs ?_
    obtain ⟨σ1, e1, r1, v1⟩ := rf_copies (t := 6) (f := 5) hm (by omega) (by omega) (by omega) hT
    rw [e1]
    refine hx_cs ?_
    have m1 := r1.ms hm
    rw [fi_g m1 (s1.R r1)]
    refine hx_bs ?_
    rw [rf_ck m1]
    refine hx_bs ?_
    obtain ⟨σ2, e2, r2, v2⟩ := rf_times (t := 6) (c := B.1) (u := 8) m1 (by omega) (by omega) (by omega) (by omega) v1
    rw [e2]
    refine hx_cs ?_
    have m2 := r2.ms m1
    rw [rf_ck m2]
    refine hx_bs ?_
    obtain ⟨σ3, e3, r3, v3⟩ := rf_copies (t := 7) (f := 14) m2 (by omega) (by omega) (by omega) ((q2.keep r1 (by decide)).keep r2 (by decide))
    rw [e3]
    refine hx_cs ?_
    have m3 := r3.ms m2
    rw [rf_ck m3]
    refine hx_bs ?_
    obtain ⟨σ4, e4, r4, v4⟩ := rf_times (t := 7) (c := b) (u := 8) m3 (by omega) (by omega) (by omega) (by omega) v3
    rw [e4]
    refine hx_cs ?_
    have m4 := r4.ms m3
    rw [rf_ck m4]
    refine hx_bs ?_
    rw [rf_compares m4 (by omega) (by omega) ((v2.keep r3 (by decide)).keep r4 (by decide)) v4]
    refine hx_cs ?_
    have R4 : rfM m [] [1, 2] nV σ σ4 := r1.M.tr (r2.M.tr (r3.M.tr r4.M))
    have K4 : Kr m σ σ4 := (Kr.R r1 (by decide)).tr ((Kr.R r2 (by decide)).tr ((Kr.R r3 (by decide)).tr (Kr.R r4 (by decide))))
    have k4 : ∀ r x, r ≠ 6 → r ≠ 7 → Rv σ m r x → Rv σ4 m r x := fun r x h6 h7 h => (((h.keep r1 (by simp [h6])).keep r2 (by simp [h6])).keep r3 (by simp [h7])).keep r4 (by simp [h7])
    have cb := cmp3_b (t * B.1) (B.2.2 * b)
    rw [show nI 0 = iz 0 from rfl]
    refine Hx.ce (iz_lt (by omega) (by omega) (by omega) (by omega)) (fun c2 => ?_) (fun c2 => ?_)
    · rw [if_neg (fun z => z.2 (cmp3_lt.mp c2))]
      refine (rf_looks_51 (d := d) m4 (k4 4 a (by omega) (by omega) hA) (k4 5 t (by omega) (by omega) hT) hb ha ht).mo (fun σ5 v g => ?_)
      exact ⟨(R4.mo ⟨by decide, by decide⟩ (fun _ z => z)).tr g.1, K4.tr g.2.1, g.2.2⟩
    · rw [if_pos (And.intro (by omega) (fun z => c2 (cmp3_lt.mpr z)))]
      exact Hx.ret ⟨R4.mo ⟨by decide, by decide⟩ (fun _ z => z), K4, s1.keep R4 (by decide), s2, fun _ => ⟨⟨k4 13 _ (by omega) (by omega) q1, k4 14 _ (by omega) (by omega) q2, q3.keep R4 (by decide)⟩, q4, q5⟩⟩
theorem tb_step {m d b Q R o k bd : Nat} {q : Qv} {B : Bes} {σ : St} {P : St → Int32 → Prop} {k40 : St → Nat → Int32 → Int32 → Int32 → Option (St × Int32)} {k80 : St → Nat → Int32 → Int32 → Int32 → Int32 → Option (St × Int32)} (hd : d < dig30) (hm : MS σ m) (hs : -1 ≤ q.1 ∧ q.1 ≤ 1) (hD : Rv σ m 1 d) (hQ : Rv σ m 9 Q) (hR : Rv σ m 10 R) (hRd : R < d) (hQb : Q + 1 < 10000 ^ 10) (hS : BS σ m d (sgB q) B) (hb : 0 < b ∧ b ≤ 1000) (ho : o ≤ 1)
    (hK : ∀ σ', MS σ' m → rfM m [80, 81] [1, 2] nV σ σ' → Kr m σ σ' → BS σ' m d (sgB q) (if o = 0 then lkB b Q R B else lkB b (Q + 1) (d - R) B) → Hx (k80 σ' m (nI bd) (iz q.1) (nI b) (nI (k + 1))) P) : Hx (fX12_takeBest_113 k40 k80 σ m (nI bd) (iz q.1) (nI b) (nI k) (nI o)) P := by
  have hd8 := dig30_lt
  rw [n_fX12_takeBest_113, rf_ck hm]
  refine hx_bs ?_
  obtain ⟨σ1, e1, r1, v1⟩ := rf_copies (t := 4) (f := 9) hm (by omega) (by omega) (by omega) hQ
  rw [e1]
  refine hx_cs ?_
  have m1 := r1.ms hm
  rw [rf_ck m1]
  refine hx_bs ?_
  obtain ⟨σ2, e2, r2, v2⟩ := rf_copies (t := 5) (f := 10) m1 (by omega) (by omega) (by omega) (hR.keep r1 (by decide))
  rw [e2]
  refine hx_cs ?_
  have m2 := r2.ms m1
  have fin : ∀ (σ3 : St) (a t : Nat), MS σ3 m → rfR m [4, 5, 6] σ σ3 → Rv σ3 m 4 a → Rv σ3 m 5 t → a < 10000 ^ 10 → t ≤ d → (a, t) = (if o = 0 then (Q, R) else (Q + 1, d - R)) → Hx (fX12_takeBest_161 k40 k80 σ3 m (nI bd) (iz q.1) (nI b) (nI k)) P := by
    intro σ3 a t m3 r3 A3 T3 ha ht he
    have R3 : rfM m [] [1, 2] nV σ σ3 := r3.M
    have K3 : Kr m σ σ3 := Kr.R r3 (by decide)
    have S3 : BS σ3 m d (sgB q) B := by
      obtain ⟨s1, s2, s3⟩ := hS
      refine ⟨s1.keep R3 (by decide), s2, fun z => ?_⟩
      obtain ⟨⟨q1, q2, q3⟩, q4, q5⟩ := s3 z
      exact ⟨⟨q1.keep r3 (by decide), q2.keep r3 (by decide), q3.keep R3 (by decide)⟩, q4, q5⟩
    have go : Hx (fX12_takeBest_172 k40 k80 σ3 m (nI bd) (iz q.1) (nI b) (nI k) m (nI b) (iz (sgB q))) P := by
      rw [n_fX12_takeBest_172, rf_ck m3]
      refine hx_bs ?_
      refine Hx.bd (rf_looks hd m3 S3 A3 T3 hb ha ht) (fun σ4 _ g => ?_)
      obtain ⟨r4, K4, S4⟩ := g
      refine hx_nm ?_
      rw [sm_add]
      refine hK σ4 (r4.ms m3) ((R3.mo ⟨by decide, by decide⟩ (fun _ z => z)).tr r4) (K3.tr K4) ?_
      by_cases c : o = 0
      · rw [if_pos c] at he ⊢
        cases he
        exact S4
      · rw [if_neg c] at he ⊢
        cases he
        exact S4
    rw [n_fX12_takeBest_161, show nI 0 = iz 0 from rfl]
    refine Hx.ce (iz_le (by omega) (by omega) (by omega) (by omega)) (fun c => ?_) (fun c => ?_)
    · have : sgB q = 1 := by unfold sgB; rw [if_neg (by omega)]
      rw [this] at go
      exact go
    · have : sgB q = -1 := by unfold sgB; rw [if_pos (by omega)]
      rw [this] at go
      exact go
  have r12 : rfR m [4, 5, 6] σ σ2 := (r1.mo (by decide)).tr (r2.mo (by decide))
  refine Hx.ce (sm_eq (by omega) (by omega)) (fun c => ?_) (fun c => ?_)
  · exact fin σ2 Q R m2 r12 (v1.keep r2 (by decide)) v2 (by omega) (by omega) (by rw [if_pos c])
  · rw [rf_ck m2]
    refine hx_bs ?_
    obtain ⟨σ3, e3, r3, v3⟩ := rf_puts (r := 6) (v := 1) m2 (by omega) (by omega)
    rw [e3]
    refine hx_cs ?_
    have m3 := r3.ms m2
    rw [rf_ck m3]
    refine hx_bs ?_
    obtain ⟨σ4, e4, r4, v4⟩ := rf_adds (t := 4) (b := 6) (u := 10) m3 (by omega) (by omega) (by omega) (by omega) (by omega) (by omega) ((v1.keep r2 (by decide)).keep r3 (by decide)) v3
    rw [e4]
    refine hx_cs ?_
    have m4 := r4.ms m3
    rw [rf_ck m4]
    refine hx_bs ?_
    have D4 : Rv σ4 m 1 d := (((hD.keep r1 (by decide)).keep r2 (by decide)).keep r3 (by decide)).keep r4 (by decide)
    have R4 : Rv σ4 m 10 R := (((hR.keep r1 (by decide)).keep r2 (by decide)).keep r3 (by decide)).keep r4 (by decide)
    obtain ⟨σ5, e5, r5, v5⟩ := rf_copies (t := 5) (f := 1) m4 (by omega) (by omega) (by omega) D4
    rw [e5]
    refine hx_cs ?_
    have m5 := r5.ms m4
    rw [rf_ck m5]
    refine hx_bs ?_
    obtain ⟨σ6, e6, r6, v6⟩ := rf_takesAway (t := 5) (b := 10) m5 (by omega) (by omega) (by omega) (Nat.le_of_lt hRd) v5 (R4.keep r5 (by decide))
    rw [e6]
    refine hx_cs ?_
    exact fin σ6 (Q + 1) (d - R) (r6.ms m5) (r12.tr ((r3.mo (by decide)).tr ((r4.mo (by decide)).tr ((r5.mo (by decide)).tr (r6.mo (by decide)))))) ((v4.keep r5 (by decide)).keep r6 (by decide)) v6 hQb (by omega) (by rw [if_neg c])
/-- both candidates of one denominator -/
theorem tb_80 {m d b Q R bd : Nat} {q : Qv} {B : Bes} {σ : St} {P : St → Int32 → Prop} {k40 : St → Nat → Int32 → Int32 → Int32 → Option (St × Int32)} (hd : d < dig30) (hm : MS σ m) (hs : -1 ≤ q.1 ∧ q.1 ≤ 1) (hD : Rv σ m 1 d) (hQ : Rv σ m 9 Q) (hR : Rv σ m 10 R) (hRd : R < d) (hQb : Q + 1 < 10000 ^ 10) (hS : BS σ m d (sgB q) B) (hb : 0 < b ∧ b ≤ 1000)
    (hK : ∀ σ', MS σ' m → rfM m [80, 81] [1, 2] nV σ σ' → BS σ' m d (sgB q) (if q.1 < 0 then lkB b Q R (lkB b (Q + 1) (d - R) B) else lkB b (Q + 1) (d - R) (lkB b Q R B)) → Hx (k40 σ' m (nI bd) (iz q.1) (nI (b + 1))) P) : Hx (fX12_takeBest_80 k40 FU σ m (nI bd) (iz q.1) (nI b) (nI 0)) P := by
  have e105 : ∀ (k80 : St → Nat → Int32 → Int32 → Int32 → Int32 → Option (St × Int32)) (σ : St) (k y : Nat), y ≤ 1 → fX12_takeBest_96 k40 k80 σ m (nI bd) (iz q.1) (nI b) (nI k) (nI y) = fX12_takeBest_113 k40 k80 σ m (nI bd) (iz q.1) (nI b) (nI k) (nI (if (y = 1) = (q.1 < 0) then 1 else 0)) := by
    intro k80 σ k y hy
    rw [n_fX12_takeBest_96, show nI 0 = iz 0 from rfl]
    by_cases c : 0 ≤ q.1
    · rw [if_pos (by rw [iz_le (by omega) (by omega) (by omega) (by omega)]; exact c), n_fX12_takeBest_105, show iz 0 = nI 0 from rfl]
      have hn : ¬ q.1 < 0 := by omega
      by_cases c2 : y = 0
      · subst c2
        rw [if_pos rfl, if_pos (by simp [hn])]
      · have : y = 1 := by omega
        subst this
        rw [if_neg (by rw [sm_eq (by omega) (by omega)]; omega), if_neg (by simp [hn])]
    · rw [if_neg (by rw [iz_le (by omega) (by omega) (by omega) (by omega)]; exact c), n_fX12_takeBest_105]
      have hn : q.1 < 0 := by omega
      by_cases c2 : y = 0
      · subst c2
        rw [if_neg (by rw [sm_eq (by omega) (by omega)]; omega), if_neg (by simp [hn])]
      · have : y = 1 := by omega
        subst this
        rw [if_pos rfl, if_pos (by simp [hn])]
  have eF : FU = (FU - 3) + 1 + 1 + 1 := by unfold FU; omega
  rw [eF, n_fX12_takeBest_80]
  refine Hx.ce (sm_le (by omega) (by omega)) (fun z => absurd z (by omega)) (fun _ => ?_)
  refine Hx.ce rfl (fun _ => ?_) (fun z => absurd rfl z)
  rw [e105 _ _ 0 1 (by omega)]
  refine tb_step hd hm hs hD hQ hR hRd hQb hS hb (by split <;> omega) (fun σ1 m1 r1 K1 S1 => ?_)
  rw [n_fX12_takeBest_80]
  refine Hx.ce (sm_le (by omega) (by omega)) (fun z => absurd z (by omega)) (fun _ => ?_)
  refine Hx.ce (sm_eq (by omega) (by omega)) (fun z => absurd z (by omega)) (fun _ => ?_)
  rw [e105 _ _ (0 + 1) 0 (by omega)]
  refine tb_step hd m1 hs (K1 1 d (by omega) hD) (K1 9 Q (by omega) hQ) (K1 10 R (by omega) hR) hRd hQb S1 hb (by split <;> omega) (fun σ2 m2 r2 K2 S2 => ?_)
  rw [n_fX12_takeBest_80]
  refine Hx.ce (sm_le (by omega) (by omega)) (fun _ => ?_) (fun z => absurd z (by omega))
  refine hx_nm ?_
  rw [sm_add]
  refine hK σ2 m2 (r1.tr r2) ?_
  by_cases c : q.1 < 0
  · rw [if_pos c]
    have h1 : (if ((1 : Nat) = 1) = (q.1 < 0) then 1 else 0 : Nat) = 1 := if_pos (by simp [c])
    have h0 : (if ((0 : Nat) = 1) = (q.1 < 0) then 1 else 0 : Nat) = 0 := if_neg (by simp [c])
    rw [h1, h0, if_pos rfl, if_neg (by omega)] at S2
    exact S2
  · rw [if_neg c]
    have h1 : (if ((1 : Nat) = 1) = (q.1 < 0) then 1 else 0 : Nat) = 0 := if_neg (by simp [c])
    have h0 : (if ((0 : Nat) = 1) = (q.1 < 0) then 1 else 0 : Nat) = 1 := if_pos (by simp [c])
    rw [h1, h0, if_neg (by omega), if_pos rfl] at S2
    exact S2
theorem ri_best_40 {m bd : Nat} {c : Rct} {s : Rst} {σ0 : St} (hbd : 1 ≤ bd ∧ bd ≤ 1000) (hv : c.1 + 1 < 12600) (hsm : qsm (qmk (sgB s.2.2.2.1) (bsl s.2.2.2.1 bd 1 (0, 0, 0)).2.1 (bsl s.2.2.2.1 bd 1 (0, 0, 0)).1)) : ∀ (k n b : Nat) (B : Bes) (σ : St), k < n → b + k = bd + 1 → 0 < b → RI σ m c s → Fi σ m 0 (nI 0) → rfE m σ0 σ → BS σ m s.2.2.2.1.2.2 (sgB s.2.2.2.1) B → bsl s.2.2.2.1 k b B = bsl s.2.2.2.1 bd 1 (0, 0, 0) → (1 < b → 0 < B.1) →
    Hx (fX12_takeBest_40 n σ m (nI bd) (iz s.2.2.2.1.1) (nI b)) (RO m c s 0 (cmpq (qmk (sgB s.2.2.2.1) (bsl s.2.2.2.1 bd 1 (0, 0, 0)).2.1 (bsl s.2.2.2.1 bd 1 (0, 0, 0)).1) s.2.2.2.1) (setA s (qmk (sgB s.2.2.2.1) (bsl s.2.2.2.1 bd 1 (0, 0, 0)).2.1 (bsl s.2.2.2.1 bd 1 (0, 0, 0)).1)) σ0) := by
  have hd8 := dig30_lt
  intro k
  induction k with
  | zero =>
    intro n b B σ hn hb hb0 h f0 E0 hS he hp
    obtain ⟨n, rfl⟩ : ∃ j, n = j + 1 := ⟨n - 1, by omega⟩
    have hB : B = bsl s.2.2.2.1 bd 1 (0, 0, 0) := he
    rw [← hB] at hsm ⊢
    have hp := hp (by omega)
    have hm := h.1.1
    obtain ⟨s1, s2, s3⟩ := hS
    obtain ⟨⟨q1, q2, q3⟩, q4, q5⟩ := s3 hp
    obtain ⟨ai, a1, a2⟩ := h.2.1.1
    rw [n_fX12_takeBest_40]
    refine Hx.ce (sm_lt (by omega) (by omega)) (fun _ => ?_) (fun z => absurd z (by omega))
    rw [rf_ck hm]
    refine hx_bs ?_
    obtain ⟨σ1, e1, r1, v1⟩ := rf_copies (t := 6) (f := 13) hm (by omega) (by omega) (by omega) q1
    rw [e1]
    refine hx_cs ?_
    have m1 := r1.ms hm
    rw [fi_g m1 (s1.R r1)]
    refine hx_bs ?_
    rw [rf_ck m1]
    refine hx_bs ?_
    obtain ⟨σ2, e2, r2, v2⟩ := rf_puts (r := 7) (v := B.1) m1 (by omega) (by omega)
    rw [e2]
    refine hx_cs ?_
    have m2 := r2.ms m1
    have R2 : rfM m [] [1, 2] nV σ σ2 := r1.M.tr r2.M
    have h2 := h.k12 R2
    have a12 := a1.keep R2 (by decide)
    rw [fi_g m2 a12]
    refine hx_bs ?_
    rw [fi_g m2 (q3.keep R2 (by decide))]
    refine hx_bs ?_
    rw [rf_ck m2]
    refine hx_bs ?_
    have hsg : sgB s.2.2.2.1 = 1 ∨ sgB s.2.2.2.1 = -1 := by unfold sgB; split <;> simp
    refine Hx.bd (rf_keepsMade (s := sgB s.2.2.2.1) m2 h2.2.2.2.1.1 (by omega) (show 10 ≤ 978 by omega) q4 (by omega) hp (fun _ => hsg) (v1.keep r2 (by decide)) v2) (fun σ7 v g => ?_)
    obtain ⟨r7, g1, _⟩ := g
    obtain ⟨rfl, k5, kV⟩ := g1 hsm
    have m7 := r7.ms m2
    have R7 : rfM m [5] [1, 2, 42, 44] (fun j => c.1 ≤ j) σ2 σ7 := r7.mo ⟨by decide, by decide⟩ (fun j q => by have q : j = c.1 := q; omega)
    have h7 := h2.mk5 R7 (by decide) k5 ⟨by omega, by omega⟩
    rw [rf_ck m7]
    refine hx_bs ?_
    refine Hx.bd (ri_becomes (c := (c.1 + 1, c.2)) h7 hv kV (Or.inr (Nat.lt_succ_self _))) (fun σ8 v g => ?_)
    obtain ⟨rfl, r8, c', h8, k6, k7⟩ := g
    have k6 : c.1 + 1 ≤ c'.1 ∧ c'.1 ≤ c.1 + 1 + 1 := k6
    have m8 := h8.1.1
    obtain ⟨bi, b1, b2⟩ := h8.2.1.1
    rw [fi_g m8 b1]
    refine hx_bs ?_
    rw [rf_ck m8]
    refine hx_bs ?_
    have a28 : Vl σ8 m ai s.2.2.2.1 := ((a2.2.keepM R2 (fun z => z)).keepM r7 (fun z => by have z : ai = c.1 := z; have := a2.1; omega)).keepM r8 (fun z => by have z : ai = c.1 + 1 := z; have := a2.1; omega)
    obtain ⟨σ9, e9, r9⟩ := rf_order m8 (by have := b2.1; omega) (by have := a2.1; omega) b2.2 a28
    rw [e9]
    have R9 : rfM m [] [1, 2] nV σ8 σ9 := r9.M
    refine hx_cs (Hx.ret ⟨((E0.tr R2.1).tr r7.1).tr (r8.1.tr R9.1), (((f0.keep R2 (by decide)).keep r7 (by decide)).keep r8 (by decide)).keep R9 (by decide), fun _ => rfl, c', h8.k12 R9, ?_⟩)
    unfold RBd
    rw [k7]
    show c'.1 + s.1.length ≤ _ ∧ c.2.1 + s.1.length ≤ _ ∧ c.2.2 ≤ _
    omega
  | succ k ih =>
    intro n b B σ hn hb hb0 h f0 E0 hS he hp
    obtain ⟨n, rfl⟩ : ∃ j, n = j + 1 := ⟨n - 1, by omega⟩
    have hm := h.1.1
    obtain ⟨ai, a1, a2⟩ := h.2.1.1
    have hq := a2.2.1
    have hs := hq.sg
    have hi : ai < 12600 := by have := a2.1; omega
    rw [n_fX12_takeBest_40]
    refine Hx.ce (sm_lt (by omega) (by omega)) (fun z => absurd z (by omega)) (fun _ => ?_)
    rw [fi_g hm a1]
    refine hx_bs ?_
    rw [rf_ck hm]
    refine hx_bs ?_
    obtain ⟨σ1, e1, r1, v1⟩ := rf_loads (r := 0) hm (by omega) hi a2.2 0 (by omega)
    rw [e1]
    refine hx_cs ?_
    have m1 := r1.ms hm
    rw [fi_g m1 (a1.R r1)]
    refine hx_bs ?_
    rw [rf_ck m1]
    refine hx_bs ?_
    obtain ⟨σ2, e2, r2, v2⟩ := rf_loads (r := 1) m1 (by omega) hi (a2.2.keepM (show rfM m [] [1, 2] nV σ σ1 from r1.M) (fun z => z)) 1 (by omega)
    rw [e2]
    refine hx_cs ?_
    have m2 := r2.ms m1
    rw [rf_ck m2]
    refine hx_bs ?_
    have n8 : s.2.2.2.1.2.1 < 10000 ^ 8 := by have := hq.2.2.2.2.1; omega
    obtain ⟨σ3, e3, r3, v3⟩ := rf_times (t := 0) (c := b) (u := 8) m2 (by omega) (by omega) (by omega) n8 (Rv.keep (x := s.2.2.2.1.2.1) v1 r2 (by decide))
    rw [e3]
    refine hx_cs ?_
    have m3 := r3.ms m2
    rw [rf_ck m3]
    refine hx_bs ?_
    have p9 : 10000 ^ 9 = 10000 ^ 8 * 10000 := rfl
    have p10 : 10000 ^ 10 = 10000 ^ 8 * 10000 * 10000 := rfl
    have nb : s.2.2.2.1.2.1 * b < 10000 ^ 9 := by
      rw [p9]
      exact Nat.mul_lt_mul'' n8 (by omega)
    have v2' : Rv σ3 m 1 s.2.2.2.1.2.2 := Rv.keep (x := s.2.2.2.1.2.2) v2 r3 (by decide)
    obtain ⟨σ4, e4, r4, v4, v5⟩ := rf_divides (a := 0) (b := 1) (u := 9) m3 (by omega) (by omega) (by omega) (by omega) (by omega) nb hq.2.2.1 v3 v2'
    rw [e4]
    refine hx_cs ?_
    have m4 := r4.ms m3
    have R4 : rfM m [] [1, 2] nV σ σ4 := r1.M.tr (r2.M.tr (r3.M.tr r4.M))
    have k4 : ∀ r x, r = 13 ∨ r = 14 → Rv σ m r x → Rv σ4 m r x := fun r x hr hv => by
      rcases hr with rfl | rfl
      · exact (((hv.keep r1 (by decide)).keep r2 (by decide)).keep r3 (by decide)).keep r4 (by decide)
      · exact (((hv.keep r1 (by decide)).keep r2 (by decide)).keep r3 (by decide)).keep r4 (by decide)
    have S4 : BS σ4 m s.2.2.2.1.2.2 (sgB s.2.2.2.1) B := by
      obtain ⟨s1, s2, s3⟩ := hS
      refine ⟨s1.keep R4 (by decide), s2, fun z => ?_⟩
      obtain ⟨⟨q1, q2, q3⟩, q4, q5⟩ := s3 z
      exact ⟨⟨k4 13 _ (Or.inl rfl) q1, k4 14 _ (Or.inr rfl) q2, q3.keep R4 (by decide)⟩, q4, q5⟩
    have hdl := Nat.div_le_self (s.2.2.2.1.2.1 * b) s.2.2.2.1.2.2
    refine tb_80 hq.2.2.2.2.2 m4 (by omega) (v2'.keep r4 (by decide)) v4 v5 (Nat.mod_lt _ hq.2.2.1) (by omega) S4 ⟨hb0, by omega⟩ (fun σ5 m5 r5 S5 => ?_)
    have h5 : RI σ5 m c s := (h.k12 R4).keep r5 ⟨by decide, by decide⟩ (fun _ _ _ => Or.inl (fun z => z))
    have hpos : ∀ (a t a' t' : Nat) (B : Bes), 0 < (lkB b a t (lkB b a' t' B)).1 := by
      intro a t a' t' B
      have key : ∀ (a t : Nat) (B : Bes), 0 < B.1 ∨ 0 < b → 0 < (lkB b a t B).1 := by
        intro a t B _
        unfold lkB
        split
        · rename_i z; exact z.1
        · exact hb0
      exact key a t _ (Or.inr hb0)
    have e5 : bsp s.2.2.2.1 b B = if s.2.2.2.1.1 < 0 then lkB b (s.2.2.2.1.2.1 * b / s.2.2.2.1.2.2) (s.2.2.2.1.2.1 * b % s.2.2.2.1.2.2) (lkB b (s.2.2.2.1.2.1 * b / s.2.2.2.1.2.2 + 1) (s.2.2.2.1.2.2 - s.2.2.2.1.2.1 * b % s.2.2.2.1.2.2) B) else lkB b (s.2.2.2.1.2.1 * b / s.2.2.2.1.2.2 + 1) (s.2.2.2.1.2.2 - s.2.2.2.1.2.1 * b % s.2.2.2.1.2.2) (lkB b (s.2.2.2.1.2.1 * b / s.2.2.2.1.2.2) (s.2.2.2.1.2.1 * b % s.2.2.2.1.2.2) B) := rfl
    rw [← e5] at S5
    exact ih n (b + 1) (bsp s.2.2.2.1 b B) σ5 (by omega) (by omega) (by omega) h5 ((f0.keep R4 (by decide)).keep r5 (by decide)) ((E0.tr R4.1).tr r5.1) S5 he (fun _ => by
      unfold bsp
      split
      · exact hpos _ _ _ _ _
      · exact hpos _ _ _ _ _)
noncomputable def bestQ (q : Qv) (bd : Nat) : Qv := qmk (sgB q) (bsl q bd 1 (0, 0, 0)).2.1 (bsl q bd 1 (0, 0, 0)).1
theorem ri_takeBest {σ : St} {m : Nat} {c : Rct} {s : Rst} {z : Int} (hz : -2147483648 ≤ z ∧ z < 2147483648) (hv : c.1 + 1 < 12600) (h : RI σ m c s) (hsm : 1 ≤ z ∧ z ≤ 1000 → qsm (bestQ s.2.2.2.1 z.toNat)) : Hx (fX12_takeBest σ m (iz z)) (RO m c s (if 1 ≤ z ∧ z ≤ 1000 then 0 else 1) (cmpq (bestQ s.2.2.2.1 z.toNat) s.2.2.2.1) (if 1 ≤ z ∧ z ≤ 1000 then setA s (bestQ s.2.2.2.1 z.toNat) else s) σ) := by
  rw [n_fX12_takeBest]
  refine rf_set0 h.1.1 (fun σ1 r1 m1 f0 => ?_)
  have h1 := h.k0 r1
  rw [show nI 1 = iz 1 from rfl, show nI 1000 = iz 1000 from rfl, rf_in hz.1 hz.2 (by omega) (by omega) (by omega) (by omega)]
  refine hx_cs ?_
  rw [rf_ck m1]
  refine hx_bs ?_
  rw [show iz 1 = nI 1 from rfl]
  by_cases c1 : 1 ≤ z ∧ z ≤ 1000
  · rw [if_pos c1, rf_fails1 m1 f0]
    refine hx_cs ?_
    refine Hx.ce rfl (fun _ => ?_) (fun z => absurd rfl z)
    obtain ⟨N, rfl⟩ := Int.eq_ofNat_of_zero_le (show 0 ≤ z by omega)
    rw [rf_pI m1]
    refine hx_bs ?_
    have w2 : rfM m [81] [] nV σ1 (wI σ1 (fid 16 81) m (nI 0)) := rfM.wI (by simp)
    have f81 : Fi (wI σ1 (fid 16 81) m (nI 0)) m 81 (nI 0) := fi_wI
    generalize wI σ1 (fid 16 81) m (nI 0) = σ2 at w2 f81 ⊢
    have h2 : RI σ2 m c s := h1.keep w2 ⟨by decide, by decide⟩ (fun _ _ _ => Or.inl (fun z => z))
    have m2 := h2.1.1
    obtain ⟨ai, a1, a2⟩ := h2.2.1.1
    rw [rf_sign m2]
    refine hx_bs ?_
    rw [fi_g m2 a1]
    refine hx_bs ?_
    rw [a2.2.sg m2 (by have := a2.1; omega)]
    refine hx_bs ?_
    have hsm := hsm c1
    rw [Int.toNat_natCast] at hsm ⊢
    rw [if_pos c1, if_pos c1, ← sm_iz]
    exact ri_best_40 (bd := N) (by omega) hv hsm N FU 1 (0, 0, 0) σ2 (by unfold FU; omega) (by omega) (by omega) h2 (f0.keep w2 (by decide)) (r1.1.tr w2.1) ⟨f81, Nat.zero_le _, fun z => absurd z (Nat.lt_irrefl 0)⟩ rfl (fun z => by omega)
  · rw [if_neg c1]
    refine Hx.bd (rf_fails0 m1 f0 (show 0 < 1 by omega) (by omega)) (fun σ5 v g => ?_)
    obtain ⟨rfl, r5, f5⟩ := g
    refine Hx.ce (sm_eq (show 1 < 2147483648 by omega) (by omega)) (fun z => absurd z (by omega)) (fun _ => ?_)
    rw [if_neg c1, if_neg c1]
    exact Hx.ret ⟨r1.1.tr r5.1, f5, fun q => (by cases q), c, h1.k0 r5, RBd.rf rfl⟩
