/-! ===== the reference's calls: drop ===== -/
/-- something uses a thing -/
def isu (B : As) (e : Th) : Prop := ∃ y ∈ Ths B.1 B.2.1, Rch (Ths B.1 B.2.1) y.2.2 e
/-- the state with a word's thing dropped -/
def drB (B : As) (f : Nat) (v : Int32) : As := if f = 0 then (B.1.eraseIdx ((fixI (B.1.map (·.1)) v).getD 0), B.2.1, B.2.2) else (B.1, B.2.1.eraseIdx ((fixI (B.2.1.map (·.1)) v).getD 0), B.2.2)
theorem usd_isu {B : As} {t : Nat} {e : Th} (hl : B.1.length ≤ 20 ∧ B.2.1.length ≤ 10) (ht : tg B.1 B.2.1 t = some e) (hac : Acy (Ths B.1 B.2.1)) : usd B.1 B.2.1 t e ↔ isu B e := by
  constructor
  · rintro ⟨o, e', h1, h2, h3, h4⟩
    exact ⟨e', tg_mem h3, h4⟩
  · rintro ⟨y, h1, h2⟩
    have : ∃ o, o < 30 ∧ tg B.1 B.2.1 o = some y := by
      rcases Ths_mem.mp h1 with ⟨x, hx, rfl⟩ | ⟨x, hx, rfl⟩
      · obtain ⟨i, hi⟩ := List.getElem?_of_mem hx
        have := (List.getElem?_eq_some_iff.mp hi).1
        refine ⟨i, by omega, ?_⟩
        unfold tg
        rw [if_pos (by omega), hi]
        rfl
      · obtain ⟨i, hi⟩ := List.getElem?_of_mem hx
        have := (List.getElem?_eq_some_iff.mp hi).1
        refine ⟨20 + i, by omega, ?_⟩
        unfold tg
        rw [if_neg (by omega), Nat.add_sub_cancel_left, hi]
        rfl
    obtain ⟨o, h3, h4⟩ := this
    refine ⟨o, y, h3, fun q => ?_, h4, h2⟩
    subst q
    rw [ht] at h4
    have : e = y := Option.some.inj h4
    subst this
    exact hac _ h1 h2
/-- what is left stands in the rows that moved -/
theorem Snp.drN {σ : St} {m v k d t : Nat} {c : Rd} {B : As} (h : Snp σ m v k d c B) {c' : Rd} (ht : t < B.1.length) (e1 : c'.1 = nI (B.1.length - 1)) (e2 : c'.2.1 = c.2.1) (s1 : Shf c.2.2.1 c'.2.2.1 t (B.1.length - 1)) (s2 : Shf c.2.2.2.1 c'.2.2.2.1 t (B.1.length - 1)) (s3 : Shf c.2.2.2.2.1 c'.2.2.2.2.1 t (B.1.length - 1)) (e3 : c'.2.2.2.2.2 = c.2.2.2.2.2) : Snp σ m v k d c' (B.1.eraseIdx t, B.2.1, B.2.2) := by
  obtain ⟨⟨b1, b2, b3, b4⟩, h2, h3, h4⟩ := h
  have hel : (B.1.eraseIdx t).length = B.1.length - 1 := List.length_eraseIdx_of_lt ht
  refine ⟨⟨by show c'.1 = nI (B.1.eraseIdx t).length; rw [hel]; exact e1, by show (B.1.eraseIdx t).length ≤ 20; omega, e2.trans b3, b4⟩, fun i e he => ?_, fun i e he => ?_, by show Rws σ m v c'.2.2.2.2.2.1 c'.2.2.2.2.2.2 B.2.2; rw [e3]; exact h4⟩
  · have hi := (List.getElem?_eq_some_iff.mp he).1
    have hi : i < (B.1.eraseIdx t).length := hi
    rw [hel] at hi
    have he : (B.1.eraseIdx t)[i]? = some e := he
    rw [eraseIdx_get] at he
    by_cases c1 : i < t
    · rw [if_pos c1] at he
      rw [s1.1 i c1, s2.1 i c1, s3.1 i c1]
      exact h2 i e he
    · rw [if_neg c1] at he
      rw [s1.2.1 i (by omega) hi, s2.2.1 i (by omega) hi, s3.2.1 i (by omega) hi]
      exact h2 (i + 1) e he
  · rw [s1.2.2 (20 + i) (by omega), s2.2.2 (20 + i) (by omega)]
    exact h3 i e he
theorem Snp.drF {σ : St} {m v k d t : Nat} {c : Rd} {B : As} (h : Snp σ m v k d c B) {c' : Rd} (ht : t < B.2.1.length) (e1 : c'.1 = c.1) (e2 : c'.2.1 = nI (B.2.1.length - 1)) (s1 : Shf c.2.2.1 c'.2.2.1 (20 + t) (20 + (B.2.1.length - 1))) (s2 : Shf c.2.2.2.1 c'.2.2.2.1 (20 + t) (20 + (B.2.1.length - 1))) (s3 : Shf c.2.2.2.2.1 c'.2.2.2.2.1 (20 + t) (20 + (B.2.1.length - 1))) (e3 : c'.2.2.2.2.2 = c.2.2.2.2.2) : Snp σ m v k d c' (B.1, B.2.1.eraseIdx t, B.2.2) := by
  obtain ⟨⟨b1, b2, b3, b4⟩, h2, h3, h4⟩ := h
  have hel : (B.2.1.eraseIdx t).length = B.2.1.length - 1 := List.length_eraseIdx_of_lt ht
  refine ⟨⟨e1.trans b1, b2, by show c'.2.1 = nI (B.2.1.eraseIdx t).length; rw [hel]; exact e2, by show (B.2.1.eraseIdx t).length ≤ 10; omega⟩, fun i e he => ?_, fun i e he => ?_, by show Rws σ m v c'.2.2.2.2.2.1 c'.2.2.2.2.2.2 B.2.2; rw [e3]; exact h4⟩
  · have hi := (List.getElem?_eq_some_iff.mp he).1
    have hi : i < B.1.length := hi
    rw [s1.1 i (by omega), s2.1 i (by omega), s3.1 i (by omega)]
    exact h2 i e he
  · have hi := (List.getElem?_eq_some_iff.mp he).1
    have hi : i < (B.2.1.eraseIdx t).length := hi
    rw [hel] at hi
    have he : (B.2.1.eraseIdx t)[i]? = some e := he
    rw [eraseIdx_get] at he
    by_cases c1 : i < t
    · rw [if_pos c1] at he
      rw [s1.1 (20 + i) (by omega), s2.1 (20 + i) (by omega)]
      exact h3 i e he
    · rw [if_neg c1] at he
      rw [s1.2.1 (20 + i) (by omega) (by omega), s2.2.1 (20 + i) (by omega) (by omega)]
      exact h3 (i + 1) e he
theorem Shf.rf {X : Nat → Int32} {t e : Nat} : Shf X X t t := ⟨fun _ _ => rfl, fun j h1 h2 => by omega, fun _ _ => rfl⟩
theorem ri_drop {σ : St} {m f : Nat} {c : Rct} {s : Rst} {v : Int32} (hf : f ≤ 1) (h : RI σ m c s) (hac : Acy (Ths s.2.2.2.2.2.2.2.1.1 s.2.2.2.2.2.2.2.1.2.1)) : Hx (fX12_drop σ m v (nI f)) (fun σ' u => match thq s.2.2.2.2.2.2.2.1 f v with
    | none => RO m c s 1 0 s σ σ' u
    | some e => (isu s.2.2.2.2.2.2.2.1 e → RO m c s 2 0 s σ σ' u) ∧ (¬ isu s.2.2.2.2.2.2.2.1 e → RO m c s 0 ((drB s.2.2.2.2.2.2.2.1 f v).1.length + (drB s.2.2.2.2.2.2.2.1 f v).2.1.length : Nat) (setS s (drB s.2.2.2.2.2.2.2.1 f v)) σ σ' u)) := by
  rw [n_fX12_drop]
  refine rf_set0 h.1.1 (fun σ1 r1 m1 f0 => ?_)
  have h1 := h.k0 r1
  have hcur := h1.2.2.1.cur
  have hB := hcur.B
  have b20 := hB.1.2.1
  have b10 := hB.1.2.2.2
  rw [rf_ck m1]
  refine hx_bs ?_
  rcases rf_thq (v := v) hf m1 hB with ⟨q1, q2⟩ | ⟨t, e, q1, q2, q3, q4, q5⟩
  · rw [q2, q1]
    refine hx_cs ?_
    refine Hx.ce rfl (fun _ => ?_) (fun z => absurd rfl z)
    rw [n_fX12_drop_23, rf_ck m1]
    refine hx_bs ?_
    refine Hx.bd (rf_fails0 m1 f0 (show 0 < 1 by omega) (by omega)) (fun σ5 v g => ?_)
    obtain ⟨rfl, r5, f5⟩ := g
    refine Hx.ce (sm_eq (show 1 < 2147483648 by omega) (by omega)) (fun z => absurd z (by omega)) (fun _ => ?_)
    exact Hx.ret ⟨r1.1.tr r5.1, f5, fun q => (by cases q), c, h1.k0 r5, RBd.rf rfl⟩
  · rw [q4, q1]
    refine hx_cs ?_
    refine Hx.ce (nIm (by omega)) (fun z => z.elim) (fun _ => ?_)
    rw [n_fX12_drop_23, rf_ck m1]
    refine hx_bs ?_
    rw [rf_fails1 m1 f0]
    refine hx_cs (Hx.ce rfl (fun _ => ?_) (fun q => absurd rfl q))
    rw [rf_ck m1]
    refine hx_bs ?_
    refine Hx.bd (rf_users m1 hB q2) (fun σ2 v2 g => ?_)
    obtain ⟨⟨k, rfl, hk30, hk0⟩, r2⟩ := g
    rw [usd_isu ⟨b20, b10⟩ q2 hac] at hk0
    have m2 := r2.ms m1
    have h2 := h1.k21 r2
    have f2 := f0.keep r2 (by decide)
    refine Hx.ce (sm_eq (by omega) (by omega)) (fun ck => ?_) (fun ck => ?_)
    · have nu := hk0.mp ck
      rw [n_fX12_drop_44, rf_ck m2]
      refine hx_bs ?_
      rw [rf_fails1 m2 f2]
      refine hx_cs (Hx.ce rfl (fun _ => ?_) (fun q => absurd rfl q))
      rw [rf_ck m2]
      refine hx_bs ?_
      refine Hx.bd (rf_saves m2) (fun σ3 _ g => ?_)
      obtain ⟨r3, s3⟩ := g
      have m3 := r3.ms m2
      rw [curR_k r2 (by decide) (by decide)] at s3
      have r13 : rfM m [] [21, 38] nV σ1 σ3 := (r2.mo ⟨by decide, by decide⟩ (fun _ q => q)).tr (r3.mo ⟨by decide, by decide⟩ (fun _ q => q))
      have k40 := hB.1.1.keep r13 (by decide)
      have k41 := hB.1.2.2.1.keep r13 (by decide)
      rcases q5 with ⟨rfl, p1, p2⟩ | ⟨rfl, kk, rfl, p1, p2⟩
      · refine Hx.ce rfl (fun _ => ?_) (fun q => absurd rfl q)
        rw [fi_g m3 k40]
        refine hx_bs ?_
        rw [sm_sub (by omega), rf_pI m3]
        refine hx_bs ?_
        obtain ⟨σ4, e4⟩ : ∃ s', s' = wI σ3 (fid 16 40) m (nI (s.2.2.2.2.2.2.2.1.1.length - 1)) := ⟨_, rfl⟩
        have r4 : rfM m [40] [] nV σ3 σ4 := by rw [e4]; exact rfM.wI (by simp)
        have m4 := r4.ms m3
        have j40 : Fi σ4 m 40 (nI (s.2.2.2.2.2.2.2.1.1.length - 1)) := by rw [e4]; exact fi_wI
        rw [← e4, n_fX12_drop_84]
        refine Hx.ce rfl (fun _ => ?_) (fun q => absurd rfl q)
        rw [fi_g m4 j40]
        refine hx_bs ?_
        rw [n_fX12_drop_102]
        refine rf_drop_107 (t := t) (e := s.2.2.2.2.2.2.2.1.1.length - 1) (σ0 := σ4) (by omega) (fun σ5 m5 r5 u1 u2 u3 => ?_) FU t σ4 (by unfold FU; omega) (Nat.le_refl _) (by omega) m4 rfM.rf (Shf.rf (e := 0)) (Shf.rf (e := 0)) (Shf.rf (e := 0))
        have r15 : rfM m [40] [18, 19, 20, 21, 38] nV σ1 σ5 := (r13.mo ⟨by decide, by decide⟩ (fun _ q => q)).tr ((r4.mo ⟨by decide, by decide⟩ (fun _ q => q)).tr (r5.mo ⟨by decide, by decide⟩ (fun _ q => q)))
        have o : ∀ a, a = 18 ∨ a = 19 ∨ a = 20 → sA σ4 (m + a) = sA σ1 (m + a) := by
          rintro a (rfl | rfl | rfl) <;> rw [r4.ar _ ⟨by decide, by omega, by omega⟩, r13.ar _ ⟨by decide, by omega, by omega⟩]
        rw [o 18 (by omega)] at u1
        rw [o 19 (by omega)] at u2
        rw [o 20 (by omega)] at u3
        have hK : Kp m c.1 c.2.1 c.2.2 σ1 σ5 := Kp.of r15 (by decide) (fun _ _ _ z => z)
        have hS := (hcur.kp hK).drN (c' := curR σ5 m) p2 (j40.keep r5 (by decide)) (r15.fd (by decide)) u1 u2 u3 (by
          show (sA σ5 (m + 37), sA σ5 (m + 36)) = (sA σ1 (m + 37), sA σ1 (m + 36))
          rw [r15.ar 37 ⟨by decide, by omega, by omega⟩, r15.ar 36 ⟨by decide, by omega, by omega⟩])
        have ed : drB s.2.2.2.2.2.2.2.1 0 v = (s.2.2.2.2.2.2.2.1.1.eraseIdx t, s.2.2.2.2.2.2.2.1.2.1, s.2.2.2.2.2.2.2.1.2.2) := by
          unfold drB
          rw [if_pos rfl, p1]
          rfl
        rw [rf_ck m5]
        refine hx_bs ?_
        refine Hx.bd (ri_changed h1 r15 ⟨by decide, by decide⟩ (by rw [r5.ar 38 ⟨by decide, by omega, by omega⟩, r4.ar 38 ⟨by decide, by omega, by omega⟩]; exact s3) hS) (fun σ6 _ g => ?_)
        obtain ⟨r6, h6⟩ := g
        have hB6 := h6.2.2.1.cur.B
        rw [fi_g h6.1.1 hB6.1.1]
        refine hx_bs ?_
        rw [fi_g h6.1.1 hB6.1.2.2.1]
        refine hx_bs ?_
        rw [sm_add]
        refine Hx.ret ⟨fun z => absurd z nu, fun _ => ⟨(r1.1.tr r15.1).tr r6.1, (f0.keep r15 (by decide)).keep r6 (by decide), fun _ => ?_, c, ?_, RBd.rf rfl⟩⟩
        · rw [ed, sm_iz]; rfl
        · rw [ed]; exact h6
      · refine Hx.ce (sm_eq (show 1 < 2147483648 by omega) (by omega)) (fun z => absurd z (by omega)) (fun _ => ?_)
        rw [fi_g m3 k41]
        refine hx_bs ?_
        rw [sm_sub (by omega), rf_pI m3]
        refine hx_bs ?_
        obtain ⟨σ4, e4⟩ : ∃ s', s' = wI σ3 (fid 16 41) m (nI (s.2.2.2.2.2.2.2.1.2.1.length - 1)) := ⟨_, rfl⟩
        have r4 : rfM m [41] [] nV σ3 σ4 := by rw [e4]; exact rfM.wI (by simp)
        have m4 := r4.ms m3
        have j41 : Fi σ4 m 41 (nI (s.2.2.2.2.2.2.2.1.2.1.length - 1)) := by rw [e4]; exact fi_wI
        rw [← e4, n_fX12_drop_84]
        refine Hx.ce (sm_eq (show 1 < 2147483648 by omega) (by omega)) (fun z => absurd z (by omega)) (fun _ => ?_)
        rw [fi_g m4 j41]
        refine hx_bs ?_
        rw [sm_add, n_fX12_drop_102]
        refine rf_drop_107 (t := 20 + kk) (e := 20 + (s.2.2.2.2.2.2.2.1.2.1.length - 1)) (σ0 := σ4) (by omega) (fun σ5 m5 r5 u1 u2 u3 => ?_) FU (20 + kk) σ4 (by unfold FU; omega) (Nat.le_refl _) (by omega) m4 rfM.rf (Shf.rf (e := 0)) (Shf.rf (e := 0)) (Shf.rf (e := 0))
        have r15 : rfM m [41] [18, 19, 20, 21, 38] nV σ1 σ5 := (r13.mo ⟨by decide, by decide⟩ (fun _ q => q)).tr ((r4.mo ⟨by decide, by decide⟩ (fun _ q => q)).tr (r5.mo ⟨by decide, by decide⟩ (fun _ q => q)))
        have o : ∀ a, a = 18 ∨ a = 19 ∨ a = 20 → sA σ4 (m + a) = sA σ1 (m + a) := by
          rintro a (rfl | rfl | rfl) <;> rw [r4.ar _ ⟨by decide, by omega, by omega⟩, r13.ar _ ⟨by decide, by omega, by omega⟩]
        rw [o 18 (by omega)] at u1
        rw [o 19 (by omega)] at u2
        rw [o 20 (by omega)] at u3
        have hK : Kp m c.1 c.2.1 c.2.2 σ1 σ5 := Kp.of r15 (by decide) (fun _ _ _ z => z)
        have hS := (hcur.kp hK).drF (c' := curR σ5 m) p2 (r15.fd (by decide)) (j41.keep r5 (by decide)) u1 u2 u3 (by
          show (sA σ5 (m + 37), sA σ5 (m + 36)) = (sA σ1 (m + 37), sA σ1 (m + 36))
          rw [r15.ar 37 ⟨by decide, by omega, by omega⟩, r15.ar 36 ⟨by decide, by omega, by omega⟩])
        have ed : drB s.2.2.2.2.2.2.2.1 1 v = (s.2.2.2.2.2.2.2.1.1, s.2.2.2.2.2.2.2.1.2.1.eraseIdx kk, s.2.2.2.2.2.2.2.1.2.2) := by
          unfold drB
          rw [if_neg (by omega), p1]
          rfl
        rw [rf_ck m5]
        refine hx_bs ?_
        refine Hx.bd (ri_changed h1 r15 ⟨by decide, by decide⟩ (by rw [r5.ar 38 ⟨by decide, by omega, by omega⟩, r4.ar 38 ⟨by decide, by omega, by omega⟩]; exact s3) hS) (fun σ6 _ g => ?_)
        obtain ⟨r6, h6⟩ := g
        have hB6 := h6.2.2.1.cur.B
        rw [fi_g h6.1.1 hB6.1.1]
        refine hx_bs ?_
        rw [fi_g h6.1.1 hB6.1.2.2.1]
        refine hx_bs ?_
        rw [sm_add]
        refine Hx.ret ⟨fun z => absurd z nu, fun _ => ⟨(r1.1.tr r15.1).tr r6.1, (f0.keep r15 (by decide)).keep r6 (by decide), fun _ => ?_, c, ?_, RBd.rf rfl⟩⟩
        · rw [ed, sm_iz]; rfl
        · rw [ed]; exact h6
    · have yu : isu s.2.2.2.2.2.2.2.1 e := Classical.byContradiction fun z => ck (hk0.mpr z)
      rw [n_fX12_drop_44, rf_ck m2]
      refine hx_bs ?_
      refine Hx.bd (rf_fails0 m2 f2 (show 0 < 2 by omega) (by omega)) (fun σ5 v g => ?_)
      obtain ⟨rfl, r5, f5⟩ := g
      refine Hx.ce (sm_eq (show 1 < 2147483648 by omega) (by omega)) (fun z => absurd z (by omega)) (fun _ => ?_)
      exact Hx.ret ⟨fun _ => ⟨(r1.1.tr r2.1).tr r5.1, f5, fun q => (by cases q), c, h2.k0 r5, RBd.rf rfl⟩, fun z => absurd yu z⟩
