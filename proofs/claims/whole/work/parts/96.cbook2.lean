/-! ===== the class' book: a new one ===== -/
theorem XS.z {x : Nat} {σ : St} (h : XS σ x) : x + 84 < sz σ := by have := h.1.2; omega
theorem XS.zz {x : Nat} {σ : St} (h : XS σ x) : x + 143 < sz σ := h.1.2
/-- a book's cells as its constructor leaves them -/
def bkN (σ : St) (b na fa L : Nat) : St := wF (nw 100 L L (wF (nw 100 L L (wF (wF σ (fid 4 0) b na) (fid 4 1) b fa)) (fid 4 2) b (sz σ))) (fid 4 3) b (sz σ + 1)
theorem bkN_K (σ : St) (b na fa L a : Nat) : sK (bkN σ b na fa L) a = if a = sz σ + 1 then 100 else if a = sz σ then 100 else sK σ a := rfl
theorem bkN_N (σ : St) (b na fa L a : Nat) : sN (bkN σ b na fa L) a = if a = sz σ + 1 then L else if a = sz σ then L else sN σ a := rfl
theorem bkN_Q (σ : St) (b na fa L a j : Nat) : sQ (bkN σ b na fa L) a j = if a = sz σ + 1 then 0 else if a = sz σ then 0 else sQ σ a j := rfl
theorem bkN_F (σ : St) (b na fa L f a : Nat) : sF (bkN σ b na fa L) f a = if f = fid 4 3 ∧ a = b then sz σ + 1 else if a = sz σ + 1 then 0 else if f = fid 4 2 ∧ a = b then sz σ else if a = sz σ then 0 else if f = fid 4 1 ∧ a = b then fa else if f = fid 4 0 ∧ a = b then na else sF σ f a := rfl
theorem bkN_W {x b na fa L k c : Nat} {σ0 σ : St} (h : cW x s0 k c σ0 σ) (hb : sz σ0 ≤ b) (h5 : sK σ b = 5) : cW x s0 (k + L + L) (c + 1 + 1) σ0 (bkN σ b na fa L) := by
  have hz : b < sz σ := h.hp.z (by omega)
  have g1 := h.wf (f := fid 4 0) (v := na) (Or.inl hb) (by omega) (by omega)
  have g2 := g1.wf (f := fid 4 1) (v := fa) (Or.inl hb) (show sK σ b ≠ 8 by omega) (show sK σ b ≠ 100 by omega)
  have g3 := g2.tr (cW.nw (κ := 100) (n := L) (w := L) g2.hp (by omega)) (fun r _ hr => hr)
  have k3 : sK (nw 100 L L (wF (wF σ (fid 4 0) b na) (fid 4 1) b fa)) b = 5 := by
    show (if b = sz σ then 100 else sK σ b) = 5
    rw [if_neg (by omega)]
    exact h5
  have g4 := g3.wf (f := fid 4 2) (v := sz σ) (Or.inl hb) (by rw [k3]; omega) (by rw [k3]; omega)
  have g5 := g4.tr (cW.nw (κ := 100) (n := L) (w := L) g4.hp (by omega)) (fun r _ hr => hr)
  refine g5.wf (Or.inl hb) ?_ ?_
  · show (if b = sz σ + 1 then 100 else if b = sz σ then 100 else sK σ b) ≠ 8
    rw [if_neg (by omega), if_neg (by omega)]
    omega
  · show (if b = sz σ + 1 then 100 else if b = sz σ then 100 else sK σ b) ≠ 100
    rw [if_neg (by omega), if_neg (by omega)]
    omega
theorem bkN_V {x b na fa L : Nat} {σ : St} (hp : HP (PX x) σ) (hz0 : x + 143 < sz σ) (h5 : sK σ b = 5) : Wv (bkN σ b na fa L) x b (sz σ) (sz σ + 1) L ∧ sF (bkN σ b na fa L) (fid 4 0) b = na ∧ sF (bkN σ b na fa L) (fid 4 1) b = fa := by
  have hz : b < sz σ := hp.z (by omega)
  have hlb : ∀ a, sK (bkN σ b na fa L) a = 8 → lb (bkN σ b na fa L) a < sz σ := by
    intro a ha
    rw [bkN_K] at ha
    by_cases c1 : a = sz σ + 1
    · rw [if_pos c1] at ha; omega
    · by_cases c2 : a = sz σ
      · rw [if_neg c1, if_pos c2] at ha; omega
      · rw [if_neg c1, if_neg c2] at ha
        show sF (bkN σ b na fa L) (fid 7 0) a < sz σ
        have hab : a ≠ b := fun e => by rw [e] at ha; omega
        rw [bkN_F, if_neg (fun q => hab q.2), if_neg c1, if_neg (fun q => hab q.2), if_neg c2, if_neg (fun q => hab q.2), if_neg (fun q => hab q.2)]
        exact hp.1.lb ha
  refine ⟨⟨⟨?_, ?_, ?_⟩, ⟨⟨⟨by omega, mR.n (by omega)⟩, ?_, ?_, fun a ha => ?_⟩, ⟨by omega, mR.n (by omega)⟩, ?_, ?_, fun a ha => ?_⟩, by omega⟩, ?_, ?_⟩
  · rw [bkN_K, if_neg (by omega), if_neg (by omega)]; exact h5
  · rw [bkN_F, if_neg (fun q => absurd q.1 (by decide)), if_neg (by omega), if_pos ⟨rfl, rfl⟩]
  · rw [bkN_F, if_pos ⟨rfl, rfl⟩]
  · rw [bkN_K, if_neg (by omega), if_pos rfl]
  · rw [bkN_N, if_neg (by omega), if_pos rfl]
  · have := hlb a ha
    omega
  · rw [bkN_K, if_pos rfl]
  · rw [bkN_N, if_pos rfl]
  · have := hlb a ha
    omega
  · rw [bkN_F, if_neg (fun q => absurd q.1 (by decide)), if_neg (by omega), if_neg (fun q => absurd q.1 (by decide)), if_neg (by omega), if_neg (fun q => absurd q.1 (by decide)), if_pos ⟨rfl, rfl⟩]
  · rw [bkN_F, if_neg (fun q => absurd q.1 (by decide)), if_neg (by omega), if_neg (fun q => absurd q.1 (by decide)), if_neg (by omega), if_pos ⟨rfl, rfl⟩]
theorem cx_bookInit {b na fa n m : Nat} {σ : St} (h5 : sK σ b = 5) (h0 : b ≠ 0) (hz : b < sz σ ∧ na < sz σ ∧ fa < sz σ) (h1 : sK σ na = 108 ∧ sN σ na = n) (h2 : sK σ fa = 108 ∧ sN σ fa = m) (hnm : n + m ≤ 60000000) : fX0_init σ b na fa = some (bkN σ b na fa (n + m), ()) := by
  have e0 : ckP (decide (¬ b = 0)) = some () := by rw [decide_eq_true h0]; rfl
  have a1 : aln (wF (wF σ (fid 4 0) b na) (fid 4 1) b fa) na = some (nI n) := (sm_aln (show sK (wF (wF σ (fid 4 0) b na) (fid 4 1) b fa) na = 108 from h1.1) ⟨by omega, by omega⟩).trans (by show some (nI (sN σ na)) = _; rw [h1.2])
  have a2 : aln (wF (wF σ (fid 4 0) b na) (fid 4 1) b fa) fa = some (nI m) := (sm_aln (show sK (wF (wF σ (fid 4 0) b na) (fid 4 1) b fa) fa = 108 from h2.1) ⟨by omega, by omega⟩).trans (by show some (nI (sN σ fa)) = _; rw [h2.2])
  have k3 : ∀ a, a < sz σ → ∀ v, sK (wF (nw 100 (n + m) (n + m) (wF (wF σ (fid 4 0) b na) (fid 4 1) b fa)) (fid 4 2) b v) a = sK σ a ∧ sN (wF (nw 100 (n + m) (n + m) (wF (wF σ (fid 4 0) b na) (fid 4 1) b fa)) (fid 4 2) b v) a = sN σ a := by
    intro a ha v
    have e : a ≠ sz σ := by omega
    exact ⟨if_neg e, if_neg e⟩
  have b1 : aln (wF (nw 100 (n + m) (n + m) (wF (wF σ (fid 4 0) b na) (fid 4 1) b fa)) (fid 4 2) b (sz σ)) na = some (nI n) := (sm_aln ((k3 na hz.2.1 _).1.trans h1.1) ⟨by omega, by omega⟩).trans (by rw [(k3 na hz.2.1 _).2, h1.2])
  have b2 : aln (wF (nw 100 (n + m) (n + m) (wF (wF σ (fid 4 0) b na) (fid 4 1) b fa)) (fid 4 2) b (sz σ)) fa = some (nI m) := (sm_aln ((k3 fa hz.2.2 _).1.trans h2.1) ⟨by omega, by omega⟩).trans (by rw [(k3 fa hz.2.2 _).2, h2.2])
  rw [n_fX0_init, e0]
  show (Option.bind (pF σ 4 0 b na) _) = _
  rw [sm_pF (show sK σ b = 4 + 1 from h5)]
  show (Option.bind (pF (wF σ (fid 4 0) b na) 4 1 b fa) _) = _
  rw [sm_pF (show sK (wF σ (fid 4 0) b na) b = 4 + 1 from h5)]
  show (Option.bind (aln (wF (wF σ (fid 4 0) b na) (fid 4 1) b fa) na) _) = _
  rw [a1]
  show (Option.bind (aln (wF (wF σ (fid 4 0) b na) (fid 4 1) b fa) fa) _) = _
  rw [a2]
  show (Option.bind (nwA 0 (nI n + nI m) (wF (wF σ (fid 4 0) b na) (fid 4 1) b fa)) _) = _
  rw [sm_add, nwQ hnm]
  show (Option.bind (pF (nw 100 (n + m) (n + m) (wF (wF σ (fid 4 0) b na) (fid 4 1) b fa)) 4 2 b (sz σ)) _) = _
  rw [sm_pF (show sK (nw 100 (n + m) (n + m) (wF (wF σ (fid 4 0) b na) (fid 4 1) b fa)) b = 4 + 1 from (if_neg (show b ≠ sz σ by omega)).trans h5)]
  show (Option.bind (aln (wF (nw 100 (n + m) (n + m) (wF (wF σ (fid 4 0) b na) (fid 4 1) b fa)) (fid 4 2) b (sz σ)) na) _) = _
  rw [b1]
  show (Option.bind (aln (wF (nw 100 (n + m) (n + m) (wF (wF σ (fid 4 0) b na) (fid 4 1) b fa)) (fid 4 2) b (sz σ)) fa) _) = _
  rw [b2]
  show (Option.bind (nwA 0 (nI n + nI m) (wF (nw 100 (n + m) (n + m) (wF (wF σ (fid 4 0) b na) (fid 4 1) b fa)) (fid 4 2) b (sz σ))) _) = _
  rw [sm_add, nwQ hnm]
  show (Option.bind (pF (nw 100 (n + m) (n + m) (wF (nw 100 (n + m) (n + m) (wF (wF σ (fid 4 0) b na) (fid 4 1) b fa)) (fid 4 2) b (sz σ))) 4 3 b (sz σ + 1)) _) = _
  rw [sm_pF (show sK (nw 100 (n + m) (n + m) (wF (nw 100 (n + m) (n + m) (wF (wF σ (fid 4 0) b na) (fid 4 1) b fa)) (fid 4 2) b (sz σ))) b = 4 + 1 from (if_neg (show b ≠ sz σ + 1 by omega)).trans ((if_neg (show b ≠ sz σ by omega)).trans h5))]
  rfl
/-- nothing old is written: all that is kept stays -/
theorem cW.toB0 {x k c : Nat} {σ σ' : St} (h : cW x s0 k c σ σ') (hx : XS σ x) : cB x σ σ' :=
  ⟨⟨s0, k, c, h, fun r _ hs => hs.elim⟩, aE.of fun _ hT => h.row hx hT (fun q => q)⟩
theorem cx_newBook {x b na fa k c : Nat} {ns : List NE} {fs : List FE} {σ0 σ : St} (hx : XS σ0 x) (hQ : SQ σ0 x) (h : cW x s0 k c σ0 σ) (hb : sz σ0 ≤ b) (h5 : sK σ b = 5) (hl : ns.length ≤ 20 ∧ fs.length ≤ 10) (hna : KR σ x 108 na ns.length) (hfa : KR σ x 108 fa fs.length)
    (hn : ∀ i e, ns[i]? = some e → KTold σ0 x (sQ σ na i) e.1 0 e.2.1 (some e.2.2)) (hf : ∀ i e, fs[i]? = some e → KTold σ0 x (sQ σ fa i) e.1 e.2.1 e.2.2 none ∧ 0 < e.2.1) (hN : Nod ns fs) (hkw : ∀ e ∈ fs, known e.1 = 0) :
    Hx (cb (fX0_init σ b na fa) fun σ1 _ => Option.bind (ckK σ1 5 b) fun _ => cb (fX0_weave σ1 b) fun σ4 _ => some (σ4, b)) (fun σ' v => v = b ∧ cW x s0 (k + (ns.length + fs.length) + (ns.length + fs.length)) (c + 2) σ0 σ' ∧ KBk σ' x b na fa ns fs ∧ KUs σ' x b (Ths ns fs)) := by
  have hz0 := hx.zz
  have hz1 := h.2.1.1
  have zb := h.hp.z (a := b) (by omega)
  have zn := h.hp.z (a := na) (by rw [hna.2.1]; omega)
  have zf := h.hp.z (a := fa) (by rw [hfa.2.1]; omega)
  rw [cx_bookInit h5 (by omega) ⟨zb, zn, zf⟩ hna.2 hfa.2 (by omega)]
  refine hx_cs ?_
  have hW := bkN_W (na := na) (fa := fa) (L := ns.length + fs.length) h hb h5
  obtain ⟨hV, v1, v2⟩ := bkN_V (na := na) (fa := fa) (L := ns.length + fs.length) h.hp (by omega) h5
  have hTl := Ths_len ns fs
  rw [sm_ckK hV.1.1]
  refine hx_bs ?_
  have hnew : ∀ σ1, cW x (s2 (sz σ) (sz σ + 1)) 0 0 (bkN σ b na fa (ns.length + fs.length)) σ1 → cW x s0 (k + (ns.length + fs.length) + (ns.length + fs.length)) (c + 2) σ0 σ1 := fun σ1 h1 => hW.tr0 h1 (fun r hr hs => by rcases hs with hs | hs <;> omega)
  have kNa : sK (bkN σ b na fa (ns.length + fs.length)) na = 108 := by rw [bkN_K, if_neg (by omega), if_neg (by omega)]; exact hna.2.1
  have kFa : sK (bkN σ b na fa (ns.length + fs.length)) fa = 108 := by rw [bkN_K, if_neg (by omega), if_neg (by omega)]; exact hfa.2.1
  have hK : ∀ σ1, cW x (s2 (sz σ) (sz σ + 1)) 0 0 (bkN σ b na fa (ns.length + fs.length)) σ1 → KBk σ1 x b na fa ns fs := by
    intro σ1 h1
    have hB := (hnew σ1 h1).toB0 hx
    have hbs := h1.sam (a := b) (by rw [hV.1.1]; omega) (Or.inl (by rw [hV.1.1]; omega)) (by rintro (q | q) <;> omega)
    have hns := h1.sam (a := na) (by rw [kNa]; omega) (Or.inl (by rw [kNa]; omega)) (by rintro (q | q) <;> omega)
    have hfs := h1.sam (a := fa) (by rw [kFa]; omega) (Or.inl (by rw [kFa]; omega)) (by rintro (q | q) <;> omega)
    have zn1 := h1.hp.z (a := na) (by rw [h1.k kNa (by omega)]; omega)
    have e1 : sN σ1 na = ns.length := by
      rw [(h1.2.1.2 na (hW.hp.z (by rw [kNa]; omega))).2.1, bkN_N, if_neg (by omega), if_neg (by omega)]
      exact hna.2.2
    have e2 : sN σ1 fa = fs.length := by
      rw [(h1.2.1.2 fa (hW.hp.z (by rw [kFa]; omega))).2.1, bkN_N, if_neg (by omega), if_neg (by omega)]
      exact hfa.2.2
    refine ⟨⟨by omega, h1.k hV.1.1 (by omega), hl⟩, ⟨by rw [hbs.2.1]; exact v1, by rw [hbs.2.1]; exact v2⟩, ⟨⟨hna.1, h1.k kNa (by omega), e1⟩, hfa.1, h1.k kFa (by omega), e2⟩, fun i e he => ?_, fun i e he => ?_⟩
    · rw [hns.2.2.2.2, bkN_Q, if_neg (by omega), if_neg (by omega)]
      exact (hn i e he).kB hB hQ
    · rw [hfs.2.2.2.2, bkN_Q, if_neg (by omega), if_neg (by omega)]
      exact ⟨(hf i e he).1.kB hB hQ, (hf i e he).2⟩
  refine Hx.bd (cb_weave (na := na) (fa := fa) (ns := ns) (fs := fs) hW.hp (by rw [hTl]; exact hV) hK hN hkw) (fun σ' _ hh => ?_)
  exact Hx.ret ⟨rfl, hnew σ' hh.1, hK σ' hh.1, hh.2⟩
